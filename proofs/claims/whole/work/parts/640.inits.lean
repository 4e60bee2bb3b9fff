/-! the constructors, one behind another -/
def iR_1 (R : px_R) : px_R := px_u (px_u (px_u (px_u (R) 1 4 (some 2)) 1 5 (some 3)) 1 6 (some 4)) 1 7 (some 5)
set_option maxRecDepth 100000 in
theorem ib_1 {d : Nat} {X : Nat × (Nat → Int32)} {M : px_M} {L : px_L} {R : px_R} (hd : 1 ≤ d) (hz : Zs 2 M L R) : MX yX2_init cX2_init 1 none d 4 152 X [.ref 1] (shk 2) M L R 2 (px_pu none (shk 6) M L (iR_1 R) 6) := by
  refine MX.of (by decide +kernel) (by exact Nat.le_of_ble_eq_true rfl) ?_
  refine wx_aload_n dX2_init_0 rfl ?_
  refine wx_objInit dX2_init_1 oi_X2_3 (by omega) (by exact Nat.le_of_ble_eq_true rfl) ?_
  refine wx_aload_n dX2_init_4 rfl ?_
  refine wx_bipush (v := 8) dX2_init_5 (by decide) ?_
  refine wz_newarr (kd := 13) (N := 8) (k' := 3) (cu' := 1) (su' := 8) hz dX2_init_7 (by decide) rfl ac_13 (by decide) (by decide) (by decide) (by decide) rfl rfl rfl (by omega) (by omega) ?_
  replace hz := hz.mono (k' := 3) (by omega)
  refine wx_putR dX2_init_9 fl_X2_11 (shk_at (q := (2, 0)) (show 1 < 3 by omega) (by decide)) (Or.inr ⟨rfl, rfl, rfl, px_mem 48 (by decide +kernel) rfl⟩) rfl (fun _ => ⟨rfl, rfl⟩) ?_
  replace hz := hz.r (a := 1) (j := 4) (x := some 2) (by omega)
  refine wx_aload_n dX2_init_12 rfl ?_
  refine wx_bipush (v := 8) dX2_init_13 (by decide) ?_
  refine wz_newarr (kd := 13) (N := 8) (k' := 4) (cu' := 2) (su' := 16) hz dX2_init_15 (by decide) rfl ac_13 (by decide) (by decide) (by decide) (by decide) rfl rfl rfl (by omega) (by omega) ?_
  replace hz := hz.mono (k' := 4) (by omega)
  refine wx_putR dX2_init_17 fl_X2_15 (shk_at (q := (2, 0)) (show 1 < 4 by omega) (by decide)) (Or.inr ⟨rfl, rfl, rfl, px_mem 50 (by decide +kernel) rfl⟩) rfl (fun _ => ⟨rfl, rfl⟩) ?_
  replace hz := hz.r (a := 1) (j := 5) (x := some 3) (by omega)
  refine wx_aload_n dX2_init_20 rfl ?_
  refine wx_bipush (v := 8) dX2_init_21 (by decide) ?_
  refine wz_newarr (kd := 13) (N := 8) (k' := 5) (cu' := 3) (su' := 24) hz dX2_init_23 (by decide) rfl ac_13 (by decide) (by decide) (by decide) (by decide) rfl rfl rfl (by omega) (by omega) ?_
  replace hz := hz.mono (k' := 5) (by omega)
  refine wx_putR dX2_init_25 fl_X2_18 (shk_at (q := (2, 0)) (show 1 < 5 by omega) (by decide)) (Or.inr ⟨rfl, rfl, rfl, px_mem 51 (by decide +kernel) rfl⟩) rfl (fun _ => ⟨rfl, rfl⟩) ?_
  replace hz := hz.r (a := 1) (j := 6) (x := some 4) (by omega)
  refine wx_aload_n dX2_init_28 rfl ?_
  refine wx_sipush (v := 128) dX2_init_29 (by decide) ?_
  refine wz_newarr (kd := 13) (N := 128) (k' := 6) (cu' := 4) (su' := 152) hz dX2_init_32 (by decide) rfl ac_13 (by decide) (by decide) (by decide) (by decide) rfl rfl rfl (by omega) (by omega) ?_
  replace hz := hz.mono (k' := 6) (by omega)
  refine wx_putR dX2_init_34 fl_X2_21 (shk_at (q := (2, 0)) (show 1 < 6 by omega) (by decide)) (Or.inr ⟨rfl, rfl, rfl, px_mem 52 (by decide +kernel) rfl⟩) rfl (fun _ => ⟨rfl, rfl⟩) ?_
  replace hz := hz.r (a := 1) (j := 7) (x := some 5) (by omega)
  refine wx_vret dX2_init_37 (by omega) (by omega) ?_
  exact ⟨rfl, rfl, rfl, rfl, rfl, rfl⟩
theorem iZ_1 {M : px_M} {L : px_L} {R : px_R} (hz : Zs 2 M L R) : Zs 6 M L (iR_1 R) := by
  unfold iR_1
  replace hz := hz.mono (k' := 2) (by omega)
  replace hz := hz.mono (k' := 3) (by omega)
  replace hz := hz.r (a := 1) (j := 4) (x := some 2) (by omega)
  replace hz := hz.mono (k' := 4) (by omega)
  replace hz := hz.r (a := 1) (j := 5) (x := some 3) (by omega)
  replace hz := hz.mono (k' := 5) (by omega)
  replace hz := hz.r (a := 1) (j := 6) (x := some 4) (by omega)
  replace hz := hz.mono (k' := 6) (by omega)
  replace hz := hz.r (a := 1) (j := 7) (x := some 5) (by omega)
  exact hz
def iR_6 (R : px_R) : px_R := px_u (px_u (px_u (px_u (px_u (px_u (px_u (R) 6 0 (some 7)) 6 2 (some 8)) 6 6 (some 9)) 6 7 (some 10)) 6 8 (some 11)) 6 9 (some 12)) 6 10 (some 13)
set_option maxRecDepth 100000 in
theorem ib_6 {d : Nat} {X : Nat × (Nat → Int32)} {M : px_M} {L : px_L} {R : px_R} (hd : 1 ≤ d) (hz : Zs 7 M L R) : MX yX8_init cX8_init 1 none d 7 56 X [.ref 6] (shk 7) M L R 7 (px_pu none (shk 14) M L (iR_6 R) 14) := by
  refine MX.of (by decide +kernel) (by exact Nat.le_of_ble_eq_true rfl) ?_
  refine wx_aload_n dX8_init_0 rfl ?_
  refine wx_objInit dX8_init_1 oi_X8_5 (by omega) (by exact Nat.le_of_ble_eq_true rfl) ?_
  refine wx_aload_n dX8_init_4 rfl ?_
  refine wx_bipush (v := 16) dX8_init_5 (by decide) ?_
  refine wz_anew (kd := 16) (N := 16) (k' := 8) (cu' := 1) (su' := 16) hz dX8_init_7 (Or.inl ⟨rfl, rfl⟩) cl_X8_11.1 (by decide) (by decide) (by decide) (by decide) rfl rfl rfl (by omega) (by omega) ?_
  replace hz := hz.mono (k' := 8) (by omega)
  refine wx_putR dX8_init_10 fl_X8_13 (shk_at (q := (8, 0)) (show 6 < 8 by omega) (by decide)) (Or.inr ⟨rfl, rfl, rfl, px_mem 79 (by decide +kernel) rfl⟩) rfl (fun _ => ⟨rfl, rfl⟩) ?_
  replace hz := hz.r (a := 6) (j := 0) (x := some 7) (by omega)
  refine wx_aload_n dX8_init_13 rfl ?_
  refine wx_iconst (v := 4) dX8_init_14 (by decide) ?_
  refine wz_anew (kd := 16) (N := 4) (k' := 9) (cu' := 2) (su' := 20) hz dX8_init_15 (Or.inl ⟨rfl, rfl⟩) cl_X8_11.1 (by decide) (by decide) (by decide) (by decide) rfl rfl rfl (by omega) (by omega) ?_
  replace hz := hz.mono (k' := 9) (by omega)
  refine wx_putR dX8_init_18 fl_X8_17 (shk_at (q := (8, 0)) (show 6 < 9 by omega) (by decide)) (Or.inr ⟨rfl, rfl, rfl, px_mem 86 (by decide +kernel) rfl⟩) rfl (fun _ => ⟨rfl, rfl⟩) ?_
  replace hz := hz.r (a := 6) (j := 2) (x := some 8) (by omega)
  refine wx_aload_n dX8_init_21 rfl ?_
  refine wx_iconst (v := 4) dX8_init_22 (by decide) ?_
  refine wz_newarr (kd := 13) (N := 4) (k' := 10) (cu' := 3) (su' := 24) hz dX8_init_23 (by decide) rfl ac_13 (by decide) (by decide) (by decide) (by decide) rfl rfl rfl (by omega) (by omega) ?_
  replace hz := hz.mono (k' := 10) (by omega)
  refine wx_putR dX8_init_25 fl_X8_20 (shk_at (q := (8, 0)) (show 6 < 10 by omega) (by decide)) (Or.inr ⟨rfl, rfl, rfl, px_mem 94 (by decide +kernel) rfl⟩) rfl (fun _ => ⟨rfl, rfl⟩) ?_
  replace hz := hz.r (a := 6) (j := 6) (x := some 9) (by omega)
  refine wx_aload_n dX8_init_28 rfl ?_
  refine wx_iconst (v := 4) dX8_init_29 (by decide) ?_
  refine wz_newarr (kd := 13) (N := 4) (k' := 11) (cu' := 4) (su' := 28) hz dX8_init_30 (by decide) rfl ac_13 (by decide) (by decide) (by decide) (by decide) rfl rfl rfl (by omega) (by omega) ?_
  replace hz := hz.mono (k' := 11) (by omega)
  refine wx_putR dX8_init_32 fl_X8_24 (shk_at (q := (8, 0)) (show 6 < 11 by omega) (by decide)) (Or.inr ⟨rfl, rfl, rfl, px_mem 96 (by decide +kernel) rfl⟩) rfl (fun _ => ⟨rfl, rfl⟩) ?_
  replace hz := hz.r (a := 6) (j := 7) (x := some 10) (by omega)
  refine wx_aload_n dX8_init_35 rfl ?_
  refine wx_iconst (v := 4) dX8_init_36 (by decide) ?_
  refine wz_newarr (kd := 13) (N := 4) (k' := 12) (cu' := 5) (su' := 32) hz dX8_init_37 (by decide) rfl ac_13 (by decide) (by decide) (by decide) (by decide) rfl rfl rfl (by omega) (by omega) ?_
  replace hz := hz.mono (k' := 12) (by omega)
  refine wx_putR dX8_init_39 fl_X8_27 (shk_at (q := (8, 0)) (show 6 < 12 by omega) (by decide)) (Or.inr ⟨rfl, rfl, rfl, px_mem 97 (by decide +kernel) rfl⟩) rfl (fun _ => ⟨rfl, rfl⟩) ?_
  replace hz := hz.r (a := 6) (j := 8) (x := some 11) (by omega)
  refine wx_aload_n dX8_init_42 rfl ?_
  refine wx_iconst (v := 4) dX8_init_43 (by decide) ?_
  refine wz_newarr (kd := 13) (N := 4) (k' := 13) (cu' := 6) (su' := 36) hz dX8_init_44 (by decide) rfl ac_13 (by decide) (by decide) (by decide) (by decide) rfl rfl rfl (by omega) (by omega) ?_
  replace hz := hz.mono (k' := 13) (by omega)
  refine wx_putR dX8_init_46 fl_X8_30 (shk_at (q := (8, 0)) (show 6 < 13 by omega) (by decide)) (Or.inr ⟨rfl, rfl, rfl, px_mem 98 (by decide +kernel) rfl⟩) rfl (fun _ => ⟨rfl, rfl⟩) ?_
  replace hz := hz.r (a := 6) (j := 9) (x := some 12) (by omega)
  refine wx_aload_n dX8_init_49 rfl ?_
  refine wx_bipush (v := 20) dX8_init_50 (by decide) ?_
  refine wz_newarr (kd := 13) (N := 20) (k' := 14) (cu' := 7) (su' := 56) hz dX8_init_52 (by decide) rfl ac_13 (by decide) (by decide) (by decide) (by decide) rfl rfl rfl (by omega) (by omega) ?_
  replace hz := hz.mono (k' := 14) (by omega)
  refine wx_putR dX8_init_54 fl_X8_33 (shk_at (q := (8, 0)) (show 6 < 14 by omega) (by decide)) (Or.inr ⟨rfl, rfl, rfl, px_mem 99 (by decide +kernel) rfl⟩) rfl (fun _ => ⟨rfl, rfl⟩) ?_
  replace hz := hz.r (a := 6) (j := 10) (x := some 13) (by omega)
  refine wx_vret dX8_init_57 (by omega) (by omega) ?_
  exact ⟨rfl, rfl, rfl, rfl, rfl, rfl⟩
theorem iZ_6 {M : px_M} {L : px_L} {R : px_R} (hz : Zs 7 M L R) : Zs 14 M L (iR_6 R) := by
  unfold iR_6
  replace hz := hz.mono (k' := 7) (by omega)
  replace hz := hz.mono (k' := 8) (by omega)
  replace hz := hz.r (a := 6) (j := 0) (x := some 7) (by omega)
  replace hz := hz.mono (k' := 9) (by omega)
  replace hz := hz.r (a := 6) (j := 2) (x := some 8) (by omega)
  replace hz := hz.mono (k' := 10) (by omega)
  replace hz := hz.r (a := 6) (j := 6) (x := some 9) (by omega)
  replace hz := hz.mono (k' := 11) (by omega)
  replace hz := hz.r (a := 6) (j := 7) (x := some 10) (by omega)
  replace hz := hz.mono (k' := 12) (by omega)
  replace hz := hz.r (a := 6) (j := 8) (x := some 11) (by omega)
  replace hz := hz.mono (k' := 13) (by omega)
  replace hz := hz.r (a := 6) (j := 9) (x := some 12) (by omega)
  replace hz := hz.mono (k' := 14) (by omega)
  replace hz := hz.r (a := 6) (j := 10) (x := some 13) (by omega)
  exact hz
def iR_14 (R : px_R) : px_R := px_u (px_u (px_u (px_u (px_u (R) 14 4 (some 15)) 14 6 (some 16)) 14 7 (some 17)) 14 9 (some 18)) 14 10 (some 19)
def iM_14 (M : px_M) : px_M := px_u (px_u (M) 14 1 100) 14 3 (-1)
set_option maxRecDepth 100000 in
theorem ib_14 {d : Nat} {X : Nat × (Nat → Int32)} {M : px_M} {L : px_L} {R : px_R} (hd : 1 ≤ d) (hz : Zs 15 M L R) : MX yX9_init cX9_init 1 none d 5 307 X [.ref 14] (shk 15) M L R 15 (px_pu none (shk 20) (iM_14 M) L (iR_14 R) 20) := by
  refine MX.of (by decide +kernel) (by exact Nat.le_of_ble_eq_true rfl) ?_
  refine wx_aload_n dX9_init_0 rfl ?_
  refine wx_objInit dX9_init_1 oi_X9_3 (by omega) (by exact Nat.le_of_ble_eq_true rfl) ?_
  refine wx_aload_n dX9_init_4 rfl ?_
  refine wx_bipush (v := 100) dX9_init_5 (by decide) ?_
  refine wx_putI dX9_init_7 fl_X9_9 (shk_at (q := (9, 0)) (show 14 < 15 by omega) (by decide)) (Or.inl rfl) rfl ⟨rfl, rfl⟩ ?_
  replace hz := hz.m (a := 14) (j := 1) (x := 100) (by omega)
  refine wx_aload_n dX9_init_10 rfl ?_
  refine wx_iconst (v := (-1)) dX9_init_11 (by decide) ?_
  refine wx_putI dX9_init_12 fl_X9_15 (shk_at (q := (9, 0)) (show 14 < 15 by omega) (by decide)) (Or.inl rfl) rfl ⟨rfl, rfl⟩ ?_
  replace hz := hz.m (a := 14) (j := 3) (x := (-1)) (by omega)
  refine wx_aload_n dX9_init_15 rfl ?_
  refine wx_iconst (v := 4) dX9_init_16 (by decide) ?_
  refine wz_anew (kd := 17) (N := 4) (k' := 16) (cu' := 1) (su' := 4) hz dX9_init_17 (Or.inr ⟨rfl, rfl⟩) cl_X9_18.1 (by decide) (by decide) (by decide) (by decide) rfl rfl rfl (by omega) (by omega) ?_
  replace hz := hz.mono (k' := 16) (by omega)
  refine wx_putR dX9_init_20 fl_X9_20 (shk_at (q := (9, 0)) (show 14 < 16 by omega) (by decide)) (Or.inr ⟨rfl, rfl, rfl, px_mem 145 (by decide +kernel) rfl⟩) rfl (fun _ => ⟨rfl, rfl⟩) ?_
  replace hz := hz.r (a := 14) (j := 4) (x := some 15) (by omega)
  refine wx_aload_n dX9_init_23 rfl ?_
  refine wx_bipush (v := 20) dX9_init_24 (by decide) ?_
  refine wz_newarr (kd := 13) (N := 20) (k' := 17) (cu' := 2) (su' := 24) hz dX9_init_26 (by decide) rfl ac_13 (by decide) (by decide) (by decide) (by decide) rfl rfl rfl (by omega) (by omega) ?_
  replace hz := hz.mono (k' := 17) (by omega)
  refine wx_putR dX9_init_28 fl_X9_24 (shk_at (q := (9, 0)) (show 14 < 17 by omega) (by decide)) (Or.inr ⟨rfl, rfl, rfl, px_mem 149 (by decide +kernel) rfl⟩) rfl (fun _ => ⟨rfl, rfl⟩) ?_
  replace hz := hz.r (a := 14) (j := 6) (x := some 16) (by omega)
  refine wx_aload_n dX9_init_31 rfl ?_
  refine wx_bipush (v := 20) dX9_init_32 (by decide) ?_
  refine wz_newarr (kd := 13) (N := 20) (k' := 18) (cu' := 3) (su' := 44) hz dX9_init_34 (by decide) rfl ac_13 (by decide) (by decide) (by decide) (by decide) rfl rfl rfl (by omega) (by omega) ?_
  replace hz := hz.mono (k' := 18) (by omega)
  refine wx_putR dX9_init_36 fl_X9_28 (shk_at (q := (9, 0)) (show 14 < 18 by omega) (by decide)) (Or.inr ⟨rfl, rfl, rfl, px_mem 150 (by decide +kernel) rfl⟩) rfl (fun _ => ⟨rfl, rfl⟩) ?_
  replace hz := hz.r (a := 14) (j := 7) (x := some 17) (by omega)
  refine wx_aload_n dX9_init_39 rfl ?_
  refine wx_sipush (v := 256) dX9_init_40 (by decide) ?_
  refine wz_newarr (kd := 13) (N := 256) (k' := 19) (cu' := 4) (su' := 300) hz dX9_init_43 (by decide) rfl ac_13 (by decide) (by decide) (by decide) (by decide) rfl rfl rfl (by omega) (by omega) ?_
  replace hz := hz.mono (k' := 19) (by omega)
  refine wx_putR dX9_init_45 fl_X9_31 (shk_at (q := (9, 0)) (show 14 < 19 by omega) (by decide)) (Or.inr ⟨rfl, rfl, rfl, px_mem 153 (by decide +kernel) rfl⟩) rfl (fun _ => ⟨rfl, rfl⟩) ?_
  replace hz := hz.r (a := 14) (j := 9) (x := some 18) (by omega)
  refine wx_aload_n dX9_init_48 rfl ?_
  refine wx_bipush (v := 7) dX9_init_49 (by decide) ?_
  refine wz_newarr (kd := 13) (N := 7) (k' := 20) (cu' := 5) (su' := 307) hz dX9_init_51 (by decide) rfl ac_13 (by decide) (by decide) (by decide) (by decide) rfl rfl rfl (by omega) (by omega) ?_
  replace hz := hz.mono (k' := 20) (by omega)
  refine wx_putR dX9_init_53 fl_X9_34 (shk_at (q := (9, 0)) (show 14 < 20 by omega) (by decide)) (Or.inr ⟨rfl, rfl, rfl, px_mem 154 (by decide +kernel) rfl⟩) rfl (fun _ => ⟨rfl, rfl⟩) ?_
  replace hz := hz.r (a := 14) (j := 10) (x := some 19) (by omega)
  refine wx_vret dX9_init_56 (by omega) (by omega) ?_
  exact ⟨rfl, rfl, rfl, rfl, rfl, rfl⟩
theorem iZ_14 {M : px_M} {L : px_L} {R : px_R} (hz : Zs 15 M L R) : Zs 20 (iM_14 M) L (iR_14 R) := by
  unfold iR_14 iM_14
  replace hz := hz.mono (k' := 15) (by omega)
  replace hz := hz.m (a := 14) (j := 1) (x := 100) (by omega)
  replace hz := hz.m (a := 14) (j := 3) (x := (-1)) (by omega)
  replace hz := hz.mono (k' := 16) (by omega)
  replace hz := hz.r (a := 14) (j := 4) (x := some 15) (by omega)
  replace hz := hz.mono (k' := 17) (by omega)
  replace hz := hz.r (a := 14) (j := 6) (x := some 16) (by omega)
  replace hz := hz.mono (k' := 18) (by omega)
  replace hz := hz.r (a := 14) (j := 7) (x := some 17) (by omega)
  replace hz := hz.mono (k' := 19) (by omega)
  replace hz := hz.r (a := 14) (j := 9) (x := some 18) (by omega)
  replace hz := hz.mono (k' := 20) (by omega)
  replace hz := hz.r (a := 14) (j := 10) (x := some 19) (by omega)
  exact hz
def iR_22 (R : px_R) : px_R := px_u (px_u (px_u (px_u (R) 22 0 (some 23)) 22 1 (some 24)) 22 2 (some 25)) 22 3 (some 26)
set_option maxRecDepth 100000 in
theorem ib_22 {d : Nat} {X : Nat × (Nat → Int32)} {M : px_M} {L : px_L} {R : px_R} (hd : 1 ≤ d) (hz : Zs 23 M L R) : MX yX7_init cX7_init 1 none d 4 364 X [.ref 22] (shk 23) M L R 23 (px_pu none (shk 27) M L (iR_22 R) 27) := by
  refine MX.of (by decide +kernel) (by exact Nat.le_of_ble_eq_true rfl) ?_
  refine wx_aload_n dX7_init_0 rfl ?_
  refine wx_objInit dX7_init_1 oi_X7_3 (by omega) (by exact Nat.le_of_ble_eq_true rfl) ?_
  refine wx_aload_n dX7_init_4 rfl ?_
  refine wx_sipush (v := 300) dX7_init_5 (by decide) ?_
  refine wz_newarr (kd := 13) (N := 300) (k' := 24) (cu' := 1) (su' := 300) hz dX7_init_8 (by decide) rfl ac_13 (by decide) (by decide) (by decide) (by decide) rfl rfl rfl (by omega) (by omega) ?_
  replace hz := hz.mono (k' := 24) (by omega)
  refine wx_putR dX7_init_10 fl_X7_11 (shk_at (q := (7, 0)) (show 22 < 24 by omega) (by decide)) (Or.inr ⟨rfl, rfl, rfl, px_mem 190 (by decide +kernel) rfl⟩) rfl (fun _ => ⟨rfl, rfl⟩) ?_
  replace hz := hz.r (a := 22) (j := 0) (x := some 23) (by omega)
  refine wx_aload_n dX7_init_13 rfl ?_
  refine wx_bipush (v := 16) dX7_init_14 (by decide) ?_
  refine wz_newarr (kd := 13) (N := 16) (k' := 25) (cu' := 2) (su' := 316) hz dX7_init_16 (by decide) rfl ac_13 (by decide) (by decide) (by decide) (by decide) rfl rfl rfl (by omega) (by omega) ?_
  replace hz := hz.mono (k' := 25) (by omega)
  refine wx_putR dX7_init_18 fl_X7_17 (shk_at (q := (7, 0)) (show 22 < 25 by omega) (by decide)) (Or.inr ⟨rfl, rfl, rfl, px_mem 191 (by decide +kernel) rfl⟩) rfl (fun _ => ⟨rfl, rfl⟩) ?_
  replace hz := hz.r (a := 22) (j := 1) (x := some 24) (by omega)
  refine wx_aload_n dX7_init_21 rfl ?_
  refine wx_bipush (v := 16) dX7_init_22 (by decide) ?_
  refine wz_newarr (kd := 13) (N := 16) (k' := 26) (cu' := 3) (su' := 332) hz dX7_init_24 (by decide) rfl ac_13 (by decide) (by decide) (by decide) (by decide) rfl rfl rfl (by omega) (by omega) ?_
  replace hz := hz.mono (k' := 26) (by omega)
  refine wx_putR dX7_init_26 fl_X7_20 (shk_at (q := (7, 0)) (show 22 < 26 by omega) (by decide)) (Or.inr ⟨rfl, rfl, rfl, px_mem 192 (by decide +kernel) rfl⟩) rfl (fun _ => ⟨rfl, rfl⟩) ?_
  replace hz := hz.r (a := 22) (j := 2) (x := some 25) (by omega)
  refine wx_aload_n dX7_init_29 rfl ?_
  refine wx_bipush (v := 32) dX7_init_30 (by decide) ?_
  refine wz_newarr (kd := 13) (N := 32) (k' := 27) (cu' := 4) (su' := 364) hz dX7_init_32 (by decide) rfl ac_13 (by decide) (by decide) (by decide) (by decide) rfl rfl rfl (by omega) (by omega) ?_
  replace hz := hz.mono (k' := 27) (by omega)
  refine wx_putR dX7_init_34 fl_X7_23 (shk_at (q := (7, 0)) (show 22 < 27 by omega) (by decide)) (Or.inr ⟨rfl, rfl, rfl, px_mem 193 (by decide +kernel) rfl⟩) rfl (fun _ => ⟨rfl, rfl⟩) ?_
  replace hz := hz.r (a := 22) (j := 3) (x := some 26) (by omega)
  refine wx_vret dX7_init_37 (by omega) (by omega) ?_
  exact ⟨rfl, rfl, rfl, rfl, rfl, rfl⟩
theorem iZ_22 {M : px_M} {L : px_L} {R : px_R} (hz : Zs 23 M L R) : Zs 27 M L (iR_22 R) := by
  unfold iR_22
  replace hz := hz.mono (k' := 23) (by omega)
  replace hz := hz.mono (k' := 24) (by omega)
  replace hz := hz.r (a := 22) (j := 0) (x := some 23) (by omega)
  replace hz := hz.mono (k' := 25) (by omega)
  replace hz := hz.r (a := 22) (j := 1) (x := some 24) (by omega)
  replace hz := hz.mono (k' := 26) (by omega)
  replace hz := hz.r (a := 22) (j := 2) (x := some 25) (by omega)
  replace hz := hz.mono (k' := 27) (by omega)
  replace hz := hz.r (a := 22) (j := 3) (x := some 26) (by omega)
  exact hz
def iR_20 (R : px_R) : px_R := px_u (iR_22 (px_u (R) 20 0 (some 21))) 20 10 (some 22)
def iM_20 (M : px_M) : px_M := px_u (M) 20 9 (-1)
set_option maxRecDepth 100000 in
theorem ib_20 {d : Nat} {X : Nat × (Nat → Int32)} {M : px_M} {L : px_L} {R : px_R} (hd : 2 ≤ d) (hz : Zs 21 M L R) : MX yX6_init cX6_init 1 none d 6 670 X [.ref 20] (shk 21) M L R 21 (px_pu none (shk 27) (iM_20 M) L (iR_20 R) 27) := by
  refine MX.of (by decide +kernel) (by exact Nat.le_of_ble_eq_true rfl) ?_
  refine wx_aload_n dX6_init_0 rfl ?_
  refine wx_objInit dX6_init_1 oi_X6_3 (by omega) (by exact Nat.le_of_ble_eq_true rfl) ?_
  refine wx_aload_n dX6_init_4 rfl ?_
  refine wx_sipush (v := 300) dX6_init_5 (by decide) ?_
  refine wz_newarr (kd := 13) (N := 300) (k' := 22) (cu' := 1) (su' := 300) hz dX6_init_8 (by decide) rfl ac_13 (by decide) (by decide) (by decide) (by decide) rfl rfl rfl (by omega) (by omega) ?_
  replace hz := hz.mono (k' := 22) (by omega)
  refine wx_putR dX6_init_10 fl_X6_11 (shk_at (q := (6, 0)) (show 20 < 22 by omega) (by decide)) (Or.inr ⟨rfl, rfl, rfl, px_mem 211 (by decide +kernel) rfl⟩) rfl (fun _ => ⟨rfl, rfl⟩) ?_
  replace hz := hz.r (a := 20) (j := 0) (x := some 21) (by omega)
  refine wx_aload_n dX6_init_13 rfl ?_
  refine wx_iconst (v := (-1)) dX6_init_14 (by decide) ?_
  refine wx_putI dX6_init_15 fl_X6_15 (shk_at (q := (6, 0)) (show 20 < 22 by omega) (by decide)) (Or.inl rfl) rfl ⟨rfl, rfl⟩ ?_
  replace hz := hz.m (a := 20) (j := 9) (x := (-1)) (by omega)
  refine wx_aload_n dX6_init_18 rfl ?_
  refine wz_new (k' := 23) (cu' := 2) (su' := 306) hz dX6_init_19 (by decide) cl_X6_19 (by decide) rfl rfl rfl (by omega) (by omega) ?_
  replace hz := hz.mono (k' := 23) (by omega)
  refine wx_dup dX6_init_22 rfl ?_
  refine wz_init dX6_init_23 ml_X6_21 my_X7_init iv_X7_init (ib_22 (d := d - 1) (by omega) hz) (by omega) (by exact Nat.le_of_ble_eq_true rfl) (cu' := 6) (su' := 670) rfl rfl (by omega) (by omega) ?_
  replace hz := iZ_22 hz
  refine wx_putR dX6_init_26 fl_X6_22 (shk_at (q := (6, 0)) (show 20 < 27 by omega) (by decide)) (Or.inl rfl) rfl (fun _ => ⟨rfl, rfl⟩) ?_
  replace hz := hz.r (a := 20) (j := 10) (x := some 22) (by omega)
  refine wx_vret dX6_init_29 (by omega) (by omega) ?_
  exact ⟨rfl, rfl, rfl, rfl, rfl, rfl⟩
theorem iZ_20 {M : px_M} {L : px_L} {R : px_R} (hz : Zs 21 M L R) : Zs 27 (iM_20 M) L (iR_20 R) := by
  unfold iR_20 iM_20
  replace hz := hz.mono (k' := 21) (by omega)
  replace hz := hz.mono (k' := 22) (by omega)
  replace hz := hz.r (a := 20) (j := 0) (x := some 21) (by omega)
  replace hz := hz.m (a := 20) (j := 9) (x := (-1)) (by omega)
  replace hz := hz.mono (k' := 23) (by omega)
  replace hz := iZ_22 hz
  replace hz := hz.r (a := 20) (j := 10) (x := some 22) (by omega)
  exact hz
def iR_27 (R : px_R) : px_R := px_u (px_u (px_u (px_u (px_u (px_u (px_u (px_u (px_u (px_u (px_u (px_u (R) 27 0 (some 28)) 27 1 (some 29)) 27 3 (some 30)) 27 4 (some 31)) 27 5 (some 32)) 27 7 (some 33)) 27 8 (some 34)) 27 9 (some 35)) 27 10 (some 36)) 27 11 (some 37)) 27 12 (some 38)) 27 14 (some 39)
set_option maxRecDepth 100000 in
theorem ib_27 {d : Nat} {X : Nat × (Nat → Int32)} {M : px_M} {L : px_L} {R : px_R} (hd : 1 ≤ d) (hz : Zs 28 M L R) : MX yX3_init cX3_init 1 none d 12 1148 X [.ref 27] (shk 28) M L R 28 (px_pu none (shk 40) M L (iR_27 R) 40) := by
  refine MX.of (by decide +kernel) (by exact Nat.le_of_ble_eq_true rfl) ?_
  refine wx_aload_n dX3_init_0 rfl ?_
  refine wx_objInit dX3_init_1 oi_X3_5 (by omega) (by exact Nat.le_of_ble_eq_true rfl) ?_
  refine wx_aload_n dX3_init_4 rfl ?_
  refine wx_iconst (v := 5) dX3_init_5 (by decide) ?_
  refine wz_newarr (kd := 13) (N := 5) (k' := 29) (cu' := 1) (su' := 5) hz dX3_init_6 (by decide) rfl ac_13 (by decide) (by decide) (by decide) (by decide) rfl rfl rfl (by omega) (by omega) ?_
  replace hz := hz.mono (k' := 29) (by omega)
  refine wx_putR dX3_init_8 fl_X3_13 (shk_at (q := (3, 0)) (show 27 < 29 by omega) (by decide)) (Or.inr ⟨rfl, rfl, rfl, px_mem 255 (by decide +kernel) rfl⟩) rfl (fun _ => ⟨rfl, rfl⟩) ?_
  replace hz := hz.r (a := 27) (j := 0) (x := some 28) (by omega)
  refine wx_aload_n dX3_init_11 rfl ?_
  refine wx_iconst (v := 5) dX3_init_12 (by decide) ?_
  refine wz_newarr (kd := 13) (N := 5) (k' := 30) (cu' := 2) (su' := 10) hz dX3_init_13 (by decide) rfl ac_13 (by decide) (by decide) (by decide) (by decide) rfl rfl rfl (by omega) (by omega) ?_
  replace hz := hz.mono (k' := 30) (by omega)
  refine wx_putR dX3_init_15 fl_X3_17 (shk_at (q := (3, 0)) (show 27 < 30 by omega) (by decide)) (Or.inr ⟨rfl, rfl, rfl, px_mem 256 (by decide +kernel) rfl⟩) rfl (fun _ => ⟨rfl, rfl⟩) ?_
  replace hz := hz.r (a := 27) (j := 1) (x := some 29) (by omega)
  refine wx_aload_n dX3_init_18 rfl ?_
  refine wx_bipush (v := 6) dX3_init_19 (by decide) ?_
  refine wz_newarr (kd := 13) (N := 6) (k' := 31) (cu' := 3) (su' := 16) hz dX3_init_21 (by decide) rfl ac_13 (by decide) (by decide) (by decide) (by decide) rfl rfl rfl (by omega) (by omega) ?_
  replace hz := hz.mono (k' := 31) (by omega)
  refine wx_putR dX3_init_23 fl_X3_20 (shk_at (q := (3, 0)) (show 27 < 31 by omega) (by decide)) (Or.inr ⟨rfl, rfl, rfl, px_mem 259 (by decide +kernel) rfl⟩) rfl (fun _ => ⟨rfl, rfl⟩) ?_
  replace hz := hz.r (a := 27) (j := 3) (x := some 30) (by omega)
  refine wx_aload_n dX3_init_26 rfl ?_
  refine wx_bipush (v := 6) dX3_init_27 (by decide) ?_
  refine wz_newarr (kd := 13) (N := 6) (k' := 32) (cu' := 4) (su' := 22) hz dX3_init_29 (by decide) rfl ac_13 (by decide) (by decide) (by decide) (by decide) rfl rfl rfl (by omega) (by omega) ?_
  replace hz := hz.mono (k' := 32) (by omega)
  refine wx_putR dX3_init_31 fl_X3_23 (shk_at (q := (3, 0)) (show 27 < 32 by omega) (by decide)) (Or.inr ⟨rfl, rfl, rfl, px_mem 260 (by decide +kernel) rfl⟩) rfl (fun _ => ⟨rfl, rfl⟩) ?_
  replace hz := hz.r (a := 27) (j := 4) (x := some 31) (by omega)
  refine wx_aload_n dX3_init_34 rfl ?_
  refine wx_bipush (v := 6) dX3_init_35 (by decide) ?_
  refine wz_newarr (kd := 13) (N := 6) (k' := 33) (cu' := 5) (su' := 28) hz dX3_init_37 (by decide) rfl ac_13 (by decide) (by decide) (by decide) (by decide) rfl rfl rfl (by omega) (by omega) ?_
  replace hz := hz.mono (k' := 33) (by omega)
  refine wx_putR dX3_init_39 fl_X3_26 (shk_at (q := (3, 0)) (show 27 < 33 by omega) (by decide)) (Or.inr ⟨rfl, rfl, rfl, px_mem 261 (by decide +kernel) rfl⟩) rfl (fun _ => ⟨rfl, rfl⟩) ?_
  replace hz := hz.r (a := 27) (j := 5) (x := some 32) (by omega)
  refine wx_aload_n dX3_init_42 rfl ?_
  refine wx_bipush (v := 17) dX3_init_43 (by decide) ?_
  refine wz_newarr (kd := 13) (N := 17) (k' := 34) (cu' := 6) (su' := 45) hz dX3_init_45 (by decide) rfl ac_13 (by decide) (by decide) (by decide) (by decide) rfl rfl rfl (by omega) (by omega) ?_
  replace hz := hz.mono (k' := 34) (by omega)
  refine wx_putR dX3_init_47 fl_X3_29 (shk_at (q := (3, 0)) (show 27 < 34 by omega) (by decide)) (Or.inr ⟨rfl, rfl, rfl, px_mem 264 (by decide +kernel) rfl⟩) rfl (fun _ => ⟨rfl, rfl⟩) ?_
  replace hz := hz.r (a := 27) (j := 7) (x := some 33) (by omega)
  refine wx_aload_n dX3_init_50 rfl ?_
  refine wx_sipush (v := 340) dX3_init_51 (by decide) ?_
  refine wz_newarr (kd := 13) (N := 340) (k' := 35) (cu' := 7) (su' := 385) hz dX3_init_54 (by decide) rfl ac_13 (by decide) (by decide) (by decide) (by decide) rfl rfl rfl (by omega) (by omega) ?_
  replace hz := hz.mono (k' := 35) (by omega)
  refine wx_putR dX3_init_56 fl_X3_32 (shk_at (q := (3, 0)) (show 27 < 35 by omega) (by decide)) (Or.inr ⟨rfl, rfl, rfl, px_mem 265 (by decide +kernel) rfl⟩) rfl (fun _ => ⟨rfl, rfl⟩) ?_
  replace hz := hz.r (a := 27) (j := 8) (x := some 34) (by omega)
  refine wx_aload_n dX3_init_59 rfl ?_
  refine wx_iconst (v := 4) dX3_init_60 (by decide) ?_
  refine wz_newarr (kd := 13) (N := 4) (k' := 36) (cu' := 8) (su' := 389) hz dX3_init_61 (by decide) rfl ac_13 (by decide) (by decide) (by decide) (by decide) rfl rfl rfl (by omega) (by omega) ?_
  replace hz := hz.mono (k' := 36) (by omega)
  refine wx_putR dX3_init_63 fl_X3_35 (shk_at (q := (3, 0)) (show 27 < 36 by omega) (by decide)) (Or.inr ⟨rfl, rfl, rfl, px_mem 266 (by decide +kernel) rfl⟩) rfl (fun _ => ⟨rfl, rfl⟩) ?_
  replace hz := hz.r (a := 27) (j := 9) (x := some 35) (by omega)
  refine wx_aload_n dX3_init_66 rfl ?_
  refine wx_iconst (v := 4) dX3_init_67 (by decide) ?_
  refine wz_newarr (kd := 13) (N := 4) (k' := 37) (cu' := 9) (su' := 393) hz dX3_init_68 (by decide) rfl ac_13 (by decide) (by decide) (by decide) (by decide) rfl rfl rfl (by omega) (by omega) ?_
  replace hz := hz.mono (k' := 37) (by omega)
  refine wx_putR dX3_init_70 fl_X3_38 (shk_at (q := (3, 0)) (show 27 < 37 by omega) (by decide)) (Or.inr ⟨rfl, rfl, rfl, px_mem 267 (by decide +kernel) rfl⟩) rfl (fun _ => ⟨rfl, rfl⟩) ?_
  replace hz := hz.r (a := 27) (j := 10) (x := some 36) (by omega)
  refine wx_aload_n dX3_init_73 rfl ?_
  refine wx_iconst (v := 4) dX3_init_74 (by decide) ?_
  refine wz_newarr (kd := 13) (N := 4) (k' := 38) (cu' := 10) (su' := 397) hz dX3_init_75 (by decide) rfl ac_13 (by decide) (by decide) (by decide) (by decide) rfl rfl rfl (by omega) (by omega) ?_
  replace hz := hz.mono (k' := 38) (by omega)
  refine wx_putR dX3_init_77 fl_X3_41 (shk_at (q := (3, 0)) (show 27 < 38 by omega) (by decide)) (Or.inr ⟨rfl, rfl, rfl, px_mem 268 (by decide +kernel) rfl⟩) rfl (fun _ => ⟨rfl, rfl⟩) ?_
  replace hz := hz.r (a := 27) (j := 11) (x := some 37) (by omega)
  refine wx_aload_n dX3_init_80 rfl ?_
  refine wx_sipush (v := 625) dX3_init_81 (by decide) ?_
  refine wz_newarr (kd := 13) (N := 625) (k' := 39) (cu' := 11) (su' := 1022) hz dX3_init_84 (by decide) rfl ac_13 (by decide) (by decide) (by decide) (by decide) rfl rfl rfl (by omega) (by omega) ?_
  replace hz := hz.mono (k' := 39) (by omega)
  refine wx_putR dX3_init_86 fl_X3_44 (shk_at (q := (3, 0)) (show 27 < 39 by omega) (by decide)) (Or.inr ⟨rfl, rfl, rfl, px_mem 269 (by decide +kernel) rfl⟩) rfl (fun _ => ⟨rfl, rfl⟩) ?_
  replace hz := hz.r (a := 27) (j := 12) (x := some 38) (by omega)
  refine wx_aload_n dX3_init_89 rfl ?_
  refine wx_bipush (v := 126) dX3_init_90 (by decide) ?_
  refine wz_newarr (kd := 14) (N := 126) (k' := 40) (cu' := 12) (su' := 1148) hz dX3_init_92 (by decide) rfl ac_14 (by decide) (by decide) (by decide) (by decide) rfl rfl rfl (by omega) (by omega) ?_
  replace hz := hz.mono (k' := 40) (by omega)
  refine wx_putR dX3_init_94 fl_X3_47 (shk_at (q := (3, 0)) (show 27 < 40 by omega) (by decide)) (Or.inr ⟨rfl, rfl, rfl, px_mem 271 (by decide +kernel) rfl⟩) rfl (fun _ => ⟨rfl, rfl⟩) ?_
  replace hz := hz.r (a := 27) (j := 14) (x := some 39) (by omega)
  refine wx_vret dX3_init_97 (by omega) (by omega) ?_
  exact ⟨rfl, rfl, rfl, rfl, rfl, rfl⟩
theorem iZ_27 {M : px_M} {L : px_L} {R : px_R} (hz : Zs 28 M L R) : Zs 40 M L (iR_27 R) := by
  unfold iR_27
  replace hz := hz.mono (k' := 28) (by omega)
  replace hz := hz.mono (k' := 29) (by omega)
  replace hz := hz.r (a := 27) (j := 0) (x := some 28) (by omega)
  replace hz := hz.mono (k' := 30) (by omega)
  replace hz := hz.r (a := 27) (j := 1) (x := some 29) (by omega)
  replace hz := hz.mono (k' := 31) (by omega)
  replace hz := hz.r (a := 27) (j := 3) (x := some 30) (by omega)
  replace hz := hz.mono (k' := 32) (by omega)
  replace hz := hz.r (a := 27) (j := 4) (x := some 31) (by omega)
  replace hz := hz.mono (k' := 33) (by omega)
  replace hz := hz.r (a := 27) (j := 5) (x := some 32) (by omega)
  replace hz := hz.mono (k' := 34) (by omega)
  replace hz := hz.r (a := 27) (j := 7) (x := some 33) (by omega)
  replace hz := hz.mono (k' := 35) (by omega)
  replace hz := hz.r (a := 27) (j := 8) (x := some 34) (by omega)
  replace hz := hz.mono (k' := 36) (by omega)
  replace hz := hz.r (a := 27) (j := 9) (x := some 35) (by omega)
  replace hz := hz.mono (k' := 37) (by omega)
  replace hz := hz.r (a := 27) (j := 10) (x := some 36) (by omega)
  replace hz := hz.mono (k' := 38) (by omega)
  replace hz := hz.r (a := 27) (j := 11) (x := some 37) (by omega)
  replace hz := hz.mono (k' := 39) (by omega)
  replace hz := hz.r (a := 27) (j := 12) (x := some 38) (by omega)
  replace hz := hz.mono (k' := 40) (by omega)
  replace hz := hz.r (a := 27) (j := 14) (x := some 39) (by omega)
  exact hz
def iR_40 (R : px_R) : px_R := px_u (px_c (px_u (px_u (px_u (px_u (px_u (px_u (px_u (R) 40 0 (some 41)) 40 1 (some 42)) 40 2 (some 43)) 40 3 (some 44)) 40 4 (some 45)) 40 6 (some 46)) 40 7 (some 47)) 48 (fun q => some (48 + 1 + q))) 40 15 (some 48)
set_option maxRecDepth 100000 in
theorem ib_40 {d : Nat} {X : Nat × (Nat → Int32)} {M : px_M} {L : px_L} {R : px_R} (hd : 1 ≤ d) (hz : Zs 41 M L R) : MX yX4_init cX4_init 1 none d 20 138 X [.ref 40] (shk 41) M L R 41 (px_pu none (shk 61) M L (iR_40 R) 61) := by
  refine MX.of (by decide +kernel) (by exact Nat.le_of_ble_eq_true rfl) ?_
  refine wx_aload_n dX4_init_0 rfl ?_
  refine wx_objInit dX4_init_1 oi_X4_3 (by omega) (by exact Nat.le_of_ble_eq_true rfl) ?_
  refine wx_aload_n dX4_init_4 rfl ?_
  refine wx_bipush (v := 6) dX4_init_5 (by decide) ?_
  refine wz_newarr (kd := 13) (N := 6) (k' := 42) (cu' := 1) (su' := 6) hz dX4_init_7 (by decide) rfl ac_13 (by decide) (by decide) (by decide) (by decide) rfl rfl rfl (by omega) (by omega) ?_
  replace hz := hz.mono (k' := 42) (by omega)
  refine wx_putR dX4_init_9 fl_X4_11 (shk_at (q := (4, 0)) (show 40 < 42 by omega) (by decide)) (Or.inr ⟨rfl, rfl, rfl, px_mem 312 (by decide +kernel) rfl⟩) rfl (fun _ => ⟨rfl, rfl⟩) ?_
  replace hz := hz.r (a := 40) (j := 0) (x := some 41) (by omega)
  refine wx_aload_n dX4_init_12 rfl ?_
  refine wx_bipush (v := 6) dX4_init_13 (by decide) ?_
  refine wz_newarr (kd := 13) (N := 6) (k' := 43) (cu' := 2) (su' := 12) hz dX4_init_15 (by decide) rfl ac_13 (by decide) (by decide) (by decide) (by decide) rfl rfl rfl (by omega) (by omega) ?_
  replace hz := hz.mono (k' := 43) (by omega)
  refine wx_putR dX4_init_17 fl_X4_15 (shk_at (q := (4, 0)) (show 40 < 43 by omega) (by decide)) (Or.inr ⟨rfl, rfl, rfl, px_mem 313 (by decide +kernel) rfl⟩) rfl (fun _ => ⟨rfl, rfl⟩) ?_
  replace hz := hz.r (a := 40) (j := 1) (x := some 42) (by omega)
  refine wx_aload_n dX4_init_20 rfl ?_
  refine wx_bipush (v := 6) dX4_init_21 (by decide) ?_
  refine wz_newarr (kd := 13) (N := 6) (k' := 44) (cu' := 3) (su' := 18) hz dX4_init_23 (by decide) rfl ac_13 (by decide) (by decide) (by decide) (by decide) rfl rfl rfl (by omega) (by omega) ?_
  replace hz := hz.mono (k' := 44) (by omega)
  refine wx_putR dX4_init_25 fl_X4_18 (shk_at (q := (4, 0)) (show 40 < 44 by omega) (by decide)) (Or.inr ⟨rfl, rfl, rfl, px_mem 314 (by decide +kernel) rfl⟩) rfl (fun _ => ⟨rfl, rfl⟩) ?_
  replace hz := hz.r (a := 40) (j := 2) (x := some 43) (by omega)
  refine wx_aload_n dX4_init_28 rfl ?_
  refine wx_bipush (v := 6) dX4_init_29 (by decide) ?_
  refine wz_newarr (kd := 13) (N := 6) (k' := 45) (cu' := 4) (su' := 24) hz dX4_init_31 (by decide) rfl ac_13 (by decide) (by decide) (by decide) (by decide) rfl rfl rfl (by omega) (by omega) ?_
  replace hz := hz.mono (k' := 45) (by omega)
  refine wx_putR dX4_init_33 fl_X4_21 (shk_at (q := (4, 0)) (show 40 < 45 by omega) (by decide)) (Or.inr ⟨rfl, rfl, rfl, px_mem 315 (by decide +kernel) rfl⟩) rfl (fun _ => ⟨rfl, rfl⟩) ?_
  replace hz := hz.r (a := 40) (j := 3) (x := some 44) (by omega)
  refine wx_aload_n dX4_init_36 rfl ?_
  refine wx_bipush (v := 6) dX4_init_37 (by decide) ?_
  refine wz_newarr (kd := 15) (N := 6) (k' := 46) (cu' := 5) (su' := 30) hz dX4_init_39 (by decide) rfl ac_15 (by decide) (by decide) (by decide) (by decide) rfl rfl rfl (by omega) (by omega) ?_
  replace hz := hz.mono (k' := 46) (by omega)
  refine wx_putR dX4_init_41 fl_X4_24 (shk_at (q := (4, 0)) (show 40 < 46 by omega) (by decide)) (Or.inr ⟨rfl, rfl, rfl, px_mem 316 (by decide +kernel) rfl⟩) rfl (fun _ => ⟨rfl, rfl⟩) ?_
  replace hz := hz.r (a := 40) (j := 4) (x := some 45) (by omega)
  refine wx_aload_n dX4_init_44 rfl ?_
  refine wx_bipush (v := 6) dX4_init_45 (by decide) ?_
  refine wz_newarr (kd := 13) (N := 6) (k' := 47) (cu' := 6) (su' := 36) hz dX4_init_47 (by decide) rfl ac_13 (by decide) (by decide) (by decide) (by decide) rfl rfl rfl (by omega) (by omega) ?_
  replace hz := hz.mono (k' := 47) (by omega)
  refine wx_putR dX4_init_49 fl_X4_28 (shk_at (q := (4, 0)) (show 40 < 47 by omega) (by decide)) (Or.inr ⟨rfl, rfl, rfl, px_mem 319 (by decide +kernel) rfl⟩) rfl (fun _ => ⟨rfl, rfl⟩) ?_
  replace hz := hz.r (a := 40) (j := 6) (x := some 46) (by omega)
  refine wx_aload_n dX4_init_52 rfl ?_
  refine wx_bipush (v := 6) dX4_init_53 (by decide) ?_
  refine wz_newarr (kd := 13) (N := 6) (k' := 48) (cu' := 7) (su' := 42) hz dX4_init_55 (by decide) rfl ac_13 (by decide) (by decide) (by decide) (by decide) rfl rfl rfl (by omega) (by omega) ?_
  replace hz := hz.mono (k' := 48) (by omega)
  refine wx_putR dX4_init_57 fl_X4_31 (shk_at (q := (4, 0)) (show 40 < 48 by omega) (by decide)) (Or.inr ⟨rfl, rfl, rfl, px_mem 320 (by decide +kernel) rfl⟩) rfl (fun _ => ⟨rfl, rfl⟩) ?_
  replace hz := hz.r (a := 40) (j := 7) (x := some 47) (by omega)
  refine wx_aload_n dX4_init_60 rfl ?_
  refine wx_bipush (v := 12) dX4_init_61 (by decide) ?_
  refine wx_bipush (v := 7) dX4_init_63 (by decide) ?_
  refine wz_multi (kd := 18) (ki := 14) (N := 12) (K := 7) (k' := 61) (cu' := 20) (su' := 138) hz dX4_init_65 (Or.inl ⟨rfl, rfl⟩) cm_X4_34 (by decide) (by decide) (by decide) (by decide) (by decide) (by decide) (by decide) (by decide) rfl rfl rfl (by omega) (by omega) ?_
  replace hz := hz.rw (N := 12) (n' := 61) (w := fun q => some (48 + 1 + q)) rfl
  refine wx_putR dX4_init_69 fl_X4_36 (shk_at (q := (4, 0)) (show 40 < 61 by omega) (by decide)) (Or.inr ⟨rfl, rfl, rfl, px_mem 334 (by decide +kernel) rfl⟩) rfl (fun _ => ⟨rfl, rfl⟩) ?_
  replace hz := hz.r (a := 40) (j := 15) (x := some 48) (by omega)
  refine wx_vret dX4_init_72 (by omega) (by omega) ?_
  exact ⟨rfl, rfl, rfl, rfl, rfl, rfl⟩
theorem iZ_40 {M : px_M} {L : px_L} {R : px_R} (hz : Zs 41 M L R) : Zs 61 M L (iR_40 R) := by
  unfold iR_40
  replace hz := hz.mono (k' := 41) (by omega)
  replace hz := hz.mono (k' := 42) (by omega)
  replace hz := hz.r (a := 40) (j := 0) (x := some 41) (by omega)
  replace hz := hz.mono (k' := 43) (by omega)
  replace hz := hz.r (a := 40) (j := 1) (x := some 42) (by omega)
  replace hz := hz.mono (k' := 44) (by omega)
  replace hz := hz.r (a := 40) (j := 2) (x := some 43) (by omega)
  replace hz := hz.mono (k' := 45) (by omega)
  replace hz := hz.r (a := 40) (j := 3) (x := some 44) (by omega)
  replace hz := hz.mono (k' := 46) (by omega)
  replace hz := hz.r (a := 40) (j := 4) (x := some 45) (by omega)
  replace hz := hz.mono (k' := 47) (by omega)
  replace hz := hz.r (a := 40) (j := 6) (x := some 46) (by omega)
  replace hz := hz.mono (k' := 48) (by omega)
  replace hz := hz.r (a := 40) (j := 7) (x := some 47) (by omega)
  replace hz := hz.rw (N := 12) (n' := 61) (w := fun q => some (48 + 1 + q)) rfl
  replace hz := hz.r (a := 40) (j := 15) (x := some 48) (by omega)
  exact hz
def iR_61 (R : px_R) : px_R := px_u (px_u (px_u (px_u (px_u (px_u (R) 61 0 (some 62)) 61 1 (some 63)) 61 2 (some 64)) 61 3 (some 65)) 61 5 (some 66)) 61 6 (some 67)
set_option maxRecDepth 100000 in
theorem ib_61 {d : Nat} {X : Nat × (Nat → Int32)} {M : px_M} {L : px_L} {R : px_R} (hd : 1 ≤ d) (hz : Zs 62 M L R) : MX yX0_init cX0_init 1 none d 6 58 X [.ref 61] (shk 62) M L R 62 (px_pu none (shk 68) M L (iR_61 R) 68) := by
  refine MX.of (by decide +kernel) (by exact Nat.le_of_ble_eq_true rfl) ?_
  refine wx_aload_n dX0_init_0 rfl ?_
  refine wx_objInit dX0_init_1 oi_X0_1 (by omega) (by exact Nat.le_of_ble_eq_true rfl) ?_
  refine wx_aload_n dX0_init_4 rfl ?_
  refine wx_bipush (v := 12) dX0_init_5 (by decide) ?_
  refine wz_newarr (kd := 13) (N := 12) (k' := 63) (cu' := 1) (su' := 12) hz dX0_init_7 (by decide) rfl ac_13 (by decide) (by decide) (by decide) (by decide) rfl rfl rfl (by omega) (by omega) ?_
  replace hz := hz.mono (k' := 63) (by omega)
  refine wx_putR dX0_init_9 fl_X0_9 (shk_at (q := (0, 0)) (show 61 < 63 by omega) (by decide)) (Or.inr ⟨rfl, rfl, rfl, px_mem 384 (by decide +kernel) rfl⟩) rfl (fun _ => ⟨rfl, rfl⟩) ?_
  replace hz := hz.r (a := 61) (j := 0) (x := some 62) (by omega)
  refine wx_aload_n dX0_init_12 rfl ?_
  refine wx_bipush (v := 12) dX0_init_13 (by decide) ?_
  refine wz_newarr (kd := 13) (N := 12) (k' := 64) (cu' := 2) (su' := 24) hz dX0_init_15 (by decide) rfl ac_13 (by decide) (by decide) (by decide) (by decide) rfl rfl rfl (by omega) (by omega) ?_
  replace hz := hz.mono (k' := 64) (by omega)
  refine wx_putR dX0_init_17 fl_X0_13 (shk_at (q := (0, 0)) (show 61 < 64 by omega) (by decide)) (Or.inr ⟨rfl, rfl, rfl, px_mem 385 (by decide +kernel) rfl⟩) rfl (fun _ => ⟨rfl, rfl⟩) ?_
  replace hz := hz.r (a := 61) (j := 1) (x := some 63) (by omega)
  refine wx_aload_n dX0_init_20 rfl ?_
  refine wx_bipush (v := 12) dX0_init_21 (by decide) ?_
  refine wz_newarr (kd := 13) (N := 12) (k' := 65) (cu' := 3) (su' := 36) hz dX0_init_23 (by decide) rfl ac_13 (by decide) (by decide) (by decide) (by decide) rfl rfl rfl (by omega) (by omega) ?_
  replace hz := hz.mono (k' := 65) (by omega)
  refine wx_putR dX0_init_25 fl_X0_16 (shk_at (q := (0, 0)) (show 61 < 65 by omega) (by decide)) (Or.inr ⟨rfl, rfl, rfl, px_mem 386 (by decide +kernel) rfl⟩) rfl (fun _ => ⟨rfl, rfl⟩) ?_
  replace hz := hz.r (a := 61) (j := 2) (x := some 64) (by omega)
  refine wx_aload_n dX0_init_28 rfl ?_
  refine wx_bipush (v := 12) dX0_init_29 (by decide) ?_
  refine wz_newarr (kd := 13) (N := 12) (k' := 66) (cu' := 4) (su' := 48) hz dX0_init_31 (by decide) rfl ac_13 (by decide) (by decide) (by decide) (by decide) rfl rfl rfl (by omega) (by omega) ?_
  replace hz := hz.mono (k' := 66) (by omega)
  refine wx_putR dX0_init_33 fl_X0_19 (shk_at (q := (0, 0)) (show 61 < 66 by omega) (by decide)) (Or.inr ⟨rfl, rfl, rfl, px_mem 387 (by decide +kernel) rfl⟩) rfl (fun _ => ⟨rfl, rfl⟩) ?_
  replace hz := hz.r (a := 61) (j := 3) (x := some 65) (by omega)
  refine wx_aload_n dX0_init_36 rfl ?_
  refine wx_iconst (v := 5) dX0_init_37 (by decide) ?_
  refine wz_newarr (kd := 13) (N := 5) (k' := 67) (cu' := 5) (su' := 53) hz dX0_init_38 (by decide) rfl ac_13 (by decide) (by decide) (by decide) (by decide) rfl rfl rfl (by omega) (by omega) ?_
  replace hz := hz.mono (k' := 67) (by omega)
  refine wx_putR dX0_init_40 fl_X0_22 (shk_at (q := (0, 0)) (show 61 < 67 by omega) (by decide)) (Or.inr ⟨rfl, rfl, rfl, px_mem 390 (by decide +kernel) rfl⟩) rfl (fun _ => ⟨rfl, rfl⟩) ?_
  replace hz := hz.r (a := 61) (j := 5) (x := some 66) (by omega)
  refine wx_aload_n dX0_init_43 rfl ?_
  refine wx_iconst (v := 5) dX0_init_44 (by decide) ?_
  refine wz_newarr (kd := 13) (N := 5) (k' := 68) (cu' := 6) (su' := 58) hz dX0_init_45 (by decide) rfl ac_13 (by decide) (by decide) (by decide) (by decide) rfl rfl rfl (by omega) (by omega) ?_
  replace hz := hz.mono (k' := 68) (by omega)
  refine wx_putR dX0_init_47 fl_X0_25 (shk_at (q := (0, 0)) (show 61 < 68 by omega) (by decide)) (Or.inr ⟨rfl, rfl, rfl, px_mem 392 (by decide +kernel) rfl⟩) rfl (fun _ => ⟨rfl, rfl⟩) ?_
  replace hz := hz.r (a := 61) (j := 6) (x := some 67) (by omega)
  refine wx_vret dX0_init_50 (by omega) (by omega) ?_
  exact ⟨rfl, rfl, rfl, rfl, rfl, rfl⟩
theorem iZ_61 {M : px_M} {L : px_L} {R : px_R} (hz : Zs 62 M L R) : Zs 68 M L (iR_61 R) := by
  unfold iR_61
  replace hz := hz.mono (k' := 62) (by omega)
  replace hz := hz.mono (k' := 63) (by omega)
  replace hz := hz.r (a := 61) (j := 0) (x := some 62) (by omega)
  replace hz := hz.mono (k' := 64) (by omega)
  replace hz := hz.r (a := 61) (j := 1) (x := some 63) (by omega)
  replace hz := hz.mono (k' := 65) (by omega)
  replace hz := hz.r (a := 61) (j := 2) (x := some 64) (by omega)
  replace hz := hz.mono (k' := 66) (by omega)
  replace hz := hz.r (a := 61) (j := 3) (x := some 65) (by omega)
  replace hz := hz.mono (k' := 67) (by omega)
  replace hz := hz.r (a := 61) (j := 5) (x := some 66) (by omega)
  replace hz := hz.mono (k' := 68) (by omega)
  replace hz := hz.r (a := 61) (j := 6) (x := some 67) (by omega)
  exact hz
def iR_68 (R : px_R) : px_R := px_u (px_u (px_u (px_u (R) 68 0 (some 69)) 68 1 (some 70)) 68 2 (some 71)) 68 3 (some 72)
set_option maxRecDepth 100000 in
theorem ib_68 {d : Nat} {X : Nat × (Nat → Int32)} {M : px_M} {L : px_L} {R : px_R} (hd : 1 ≤ d) (hz : Zs 69 M L R) : MX yX7_init cX7_init 1 none d 4 364 X [.ref 68] (shk 69) M L R 69 (px_pu none (shk 73) M L (iR_68 R) 73) := by
  refine MX.of (by decide +kernel) (by exact Nat.le_of_ble_eq_true rfl) ?_
  refine wx_aload_n dX7_init_0 rfl ?_
  refine wx_objInit dX7_init_1 oi_X7_3 (by omega) (by exact Nat.le_of_ble_eq_true rfl) ?_
  refine wx_aload_n dX7_init_4 rfl ?_
  refine wx_sipush (v := 300) dX7_init_5 (by decide) ?_
  refine wz_newarr (kd := 13) (N := 300) (k' := 70) (cu' := 1) (su' := 300) hz dX7_init_8 (by decide) rfl ac_13 (by decide) (by decide) (by decide) (by decide) rfl rfl rfl (by omega) (by omega) ?_
  replace hz := hz.mono (k' := 70) (by omega)
  refine wx_putR dX7_init_10 fl_X7_11 (shk_at (q := (7, 0)) (show 68 < 70 by omega) (by decide)) (Or.inr ⟨rfl, rfl, rfl, px_mem 190 (by decide +kernel) rfl⟩) rfl (fun _ => ⟨rfl, rfl⟩) ?_
  replace hz := hz.r (a := 68) (j := 0) (x := some 69) (by omega)
  refine wx_aload_n dX7_init_13 rfl ?_
  refine wx_bipush (v := 16) dX7_init_14 (by decide) ?_
  refine wz_newarr (kd := 13) (N := 16) (k' := 71) (cu' := 2) (su' := 316) hz dX7_init_16 (by decide) rfl ac_13 (by decide) (by decide) (by decide) (by decide) rfl rfl rfl (by omega) (by omega) ?_
  replace hz := hz.mono (k' := 71) (by omega)
  refine wx_putR dX7_init_18 fl_X7_17 (shk_at (q := (7, 0)) (show 68 < 71 by omega) (by decide)) (Or.inr ⟨rfl, rfl, rfl, px_mem 191 (by decide +kernel) rfl⟩) rfl (fun _ => ⟨rfl, rfl⟩) ?_
  replace hz := hz.r (a := 68) (j := 1) (x := some 70) (by omega)
  refine wx_aload_n dX7_init_21 rfl ?_
  refine wx_bipush (v := 16) dX7_init_22 (by decide) ?_
  refine wz_newarr (kd := 13) (N := 16) (k' := 72) (cu' := 3) (su' := 332) hz dX7_init_24 (by decide) rfl ac_13 (by decide) (by decide) (by decide) (by decide) rfl rfl rfl (by omega) (by omega) ?_
  replace hz := hz.mono (k' := 72) (by omega)
  refine wx_putR dX7_init_26 fl_X7_20 (shk_at (q := (7, 0)) (show 68 < 72 by omega) (by decide)) (Or.inr ⟨rfl, rfl, rfl, px_mem 192 (by decide +kernel) rfl⟩) rfl (fun _ => ⟨rfl, rfl⟩) ?_
  replace hz := hz.r (a := 68) (j := 2) (x := some 71) (by omega)
  refine wx_aload_n dX7_init_29 rfl ?_
  refine wx_bipush (v := 32) dX7_init_30 (by decide) ?_
  refine wz_newarr (kd := 13) (N := 32) (k' := 73) (cu' := 4) (su' := 364) hz dX7_init_32 (by decide) rfl ac_13 (by decide) (by decide) (by decide) (by decide) rfl rfl rfl (by omega) (by omega) ?_
  replace hz := hz.mono (k' := 73) (by omega)
  refine wx_putR dX7_init_34 fl_X7_23 (shk_at (q := (7, 0)) (show 68 < 73 by omega) (by decide)) (Or.inr ⟨rfl, rfl, rfl, px_mem 193 (by decide +kernel) rfl⟩) rfl (fun _ => ⟨rfl, rfl⟩) ?_
  replace hz := hz.r (a := 68) (j := 3) (x := some 72) (by omega)
  refine wx_vret dX7_init_37 (by omega) (by omega) ?_
  exact ⟨rfl, rfl, rfl, rfl, rfl, rfl⟩
theorem iZ_68 {M : px_M} {L : px_L} {R : px_R} (hz : Zs 69 M L R) : Zs 73 M L (iR_68 R) := by
  unfold iR_68
  replace hz := hz.mono (k' := 69) (by omega)
  replace hz := hz.mono (k' := 70) (by omega)
  replace hz := hz.r (a := 68) (j := 0) (x := some 69) (by omega)
  replace hz := hz.mono (k' := 71) (by omega)
  replace hz := hz.r (a := 68) (j := 1) (x := some 70) (by omega)
  replace hz := hz.mono (k' := 72) (by omega)
  replace hz := hz.r (a := 68) (j := 2) (x := some 71) (by omega)
  replace hz := hz.mono (k' := 73) (by omega)
  replace hz := hz.r (a := 68) (j := 3) (x := some 72) (by omega)
  exact hz
def iR_0 (R : px_R) : px_R := px_u (iR_68 (px_u (iR_61 (px_u (iR_40 (px_u (iR_27 (px_u (iR_20 (px_u (iR_14 (px_u (iR_6 (px_u (iR_1 (R)) 0 0 (some 1))) 0 1 (some 6))) 0 2 (some 14))) 0 3 (some 20))) 0 4 (some 27))) 0 5 (some 40))) 0 6 (some 61))) 0 7 (some 68)
def iM_0 (M : px_M) : px_M := iM_20 (iM_14 (M))
set_option maxRecDepth 100000 in
theorem ib_0 {d : Nat} {X : Nat × (Nat → Int32)} {M : px_M} {L : px_L} {R : px_R} (hd : 3 ≤ d) (hz : Zs 1 M L R) : MX yX11_init cX11_init 1 none d 72 2983 X [.ref 0] (shk 1) M L R 1 (px_pu none (shk 73) (iM_0 M) L (iR_0 R) 73) := by
  refine MX.of (by decide +kernel) (by exact Nat.le_of_ble_eq_true rfl) ?_
  refine wx_aload_n dX11_init_0 rfl ?_
  refine wx_objInit dX11_init_1 oi_X11_3 (by omega) (by exact Nat.le_of_ble_eq_true rfl) ?_
  refine wx_aload_n dX11_init_4 rfl ?_
  refine wz_new (k' := 2) (cu' := 1) (su' := 8) hz dX11_init_5 (by decide) cl_X11_9 (by decide) rfl rfl rfl (by omega) (by omega) ?_
  replace hz := hz.mono (k' := 2) (by omega)
  refine wx_dup dX11_init_8 rfl ?_
  refine wz_init dX11_init_9 ml_X11_11 my_X2_init iv_X2_init (ib_1 (d := d - 1) (by omega) hz) (by omega) (by exact Nat.le_of_ble_eq_true rfl) (cu' := 5) (su' := 160) rfl rfl (by omega) (by omega) ?_
  replace hz := iZ_1 hz
  refine wx_putR dX11_init_12 fl_X11_12 (shk_at (q := (11, 0)) (show 0 < 6 by omega) (by decide)) (Or.inr ⟨rfl, rfl, rfl, px_mem 410 (by decide +kernel) rfl⟩) rfl (fun _ => ⟨rfl, rfl⟩) ?_
  replace hz := hz.r (a := 0) (j := 0) (x := some 1) (by omega)
  refine wx_aload_n dX11_init_15 rfl ?_
  refine wz_new (k' := 7) (cu' := 6) (su' := 173) hz dX11_init_16 (by decide) cl_X11_16 (by decide) rfl rfl rfl (by omega) (by omega) ?_
  replace hz := hz.mono (k' := 7) (by omega)
  refine wx_dup dX11_init_19 rfl ?_
  refine wz_init dX11_init_20 ml_X11_18 my_X8_init iv_X8_init (ib_6 (d := d - 1) (by omega) hz) (by omega) (by exact Nat.le_of_ble_eq_true rfl) (cu' := 13) (su' := 229) rfl rfl (by omega) (by omega) ?_
  replace hz := iZ_6 hz
  refine wx_putR dX11_init_23 fl_X11_19 (shk_at (q := (11, 0)) (show 0 < 14 by omega) (by decide)) (Or.inr ⟨rfl, rfl, rfl, px_mem 411 (by decide +kernel) rfl⟩) rfl (fun _ => ⟨rfl, rfl⟩) ?_
  replace hz := hz.r (a := 0) (j := 1) (x := some 6) (by omega)
  refine wx_aload_n dX11_init_26 rfl ?_
  refine wz_new (k' := 15) (cu' := 14) (su' := 240) hz dX11_init_27 (by decide) cl_X11_23 (by decide) rfl rfl rfl (by omega) (by omega) ?_
  replace hz := hz.mono (k' := 15) (by omega)
  refine wx_dup dX11_init_30 rfl ?_
  refine wz_init dX11_init_31 ml_X11_25 my_X9_init iv_X9_init (ib_14 (d := d - 1) (by omega) hz) (by omega) (by exact Nat.le_of_ble_eq_true rfl) (cu' := 19) (su' := 547) rfl rfl (by omega) (by omega) ?_
  replace hz := iZ_14 hz
  refine wx_putR dX11_init_34 fl_X11_26 (shk_at (q := (11, 0)) (show 0 < 20 by omega) (by decide)) (Or.inr ⟨rfl, rfl, rfl, px_mem 412 (by decide +kernel) rfl⟩) rfl (fun _ => ⟨rfl, rfl⟩) ?_
  replace hz := hz.r (a := 0) (j := 2) (x := some 14) (by omega)
  refine wx_aload_n dX11_init_37 rfl ?_
  refine wz_new (k' := 21) (cu' := 20) (su' := 558) hz dX11_init_38 (by decide) cl_X11_30 (by decide) rfl rfl rfl (by omega) (by omega) ?_
  replace hz := hz.mono (k' := 21) (by omega)
  refine wx_dup dX11_init_41 rfl ?_
  refine wz_init dX11_init_42 ml_X11_32 my_X6_init iv_X6_init (ib_20 (d := d - 1) (by omega) hz) (by omega) (by exact Nat.le_of_ble_eq_true rfl) (cu' := 26) (su' := 1228) rfl rfl (by omega) (by omega) ?_
  replace hz := iZ_20 hz
  refine wx_putR dX11_init_45 fl_X11_33 (shk_at (q := (11, 0)) (show 0 < 27 by omega) (by decide)) (Or.inr ⟨rfl, rfl, rfl, px_mem 413 (by decide +kernel) rfl⟩) rfl (fun _ => ⟨rfl, rfl⟩) ?_
  replace hz := hz.r (a := 0) (j := 3) (x := some 20) (by omega)
  refine wx_aload_n dX11_init_48 rfl ?_
  refine wz_new (k' := 28) (cu' := 27) (su' := 1243) hz dX11_init_49 (by decide) cl_X11_37 (by decide) rfl rfl rfl (by omega) (by omega) ?_
  replace hz := hz.mono (k' := 28) (by omega)
  refine wx_dup dX11_init_52 rfl ?_
  refine wz_init dX11_init_53 ml_X11_39 my_X3_init iv_X3_init (ib_27 (d := d - 1) (by omega) hz) (by omega) (by exact Nat.le_of_ble_eq_true rfl) (cu' := 39) (su' := 2391) rfl rfl (by omega) (by omega) ?_
  replace hz := iZ_27 hz
  refine wx_putR dX11_init_56 fl_X11_40 (shk_at (q := (11, 0)) (show 0 < 40 by omega) (by decide)) (Or.inr ⟨rfl, rfl, rfl, px_mem 414 (by decide +kernel) rfl⟩) rfl (fun _ => ⟨rfl, rfl⟩) ?_
  replace hz := hz.r (a := 0) (j := 4) (x := some 27) (by omega)
  refine wx_aload_n dX11_init_59 rfl ?_
  refine wz_new (k' := 41) (cu' := 40) (su' := 2410) hz dX11_init_60 (by decide) cl_X11_44 (by decide) rfl rfl rfl (by omega) (by omega) ?_
  replace hz := hz.mono (k' := 41) (by omega)
  refine wx_dup dX11_init_63 rfl ?_
  refine wz_init dX11_init_64 ml_X11_46 my_X4_init iv_X4_init (ib_40 (d := d - 1) (by omega) hz) (by omega) (by exact Nat.le_of_ble_eq_true rfl) (cu' := 60) (su' := 2548) rfl rfl (by omega) (by omega) ?_
  replace hz := iZ_40 hz
  refine wx_putR dX11_init_67 fl_X11_47 (shk_at (q := (11, 0)) (show 0 < 61 by omega) (by decide)) (Or.inr ⟨rfl, rfl, rfl, px_mem 415 (by decide +kernel) rfl⟩) rfl (fun _ => ⟨rfl, rfl⟩) ?_
  replace hz := hz.r (a := 0) (j := 5) (x := some 40) (by omega)
  refine wx_aload_n dX11_init_70 rfl ?_
  refine wz_new (k' := 62) (cu' := 61) (su' := 2555) hz dX11_init_71 (by decide) cl_X11_51 (by decide) rfl rfl rfl (by omega) (by omega) ?_
  replace hz := hz.mono (k' := 62) (by omega)
  refine wx_dup dX11_init_74 rfl ?_
  refine wz_init dX11_init_75 ml_X11_53 my_X0_init iv_X0_init (ib_61 (d := d - 1) (by omega) hz) (by omega) (by exact Nat.le_of_ble_eq_true rfl) (cu' := 67) (su' := 2613) rfl rfl (by omega) (by omega) ?_
  replace hz := iZ_61 hz
  refine wx_putR dX11_init_78 fl_X11_54 (shk_at (q := (11, 0)) (show 0 < 68 by omega) (by decide)) (Or.inr ⟨rfl, rfl, rfl, px_mem 416 (by decide +kernel) rfl⟩) rfl (fun _ => ⟨rfl, rfl⟩) ?_
  replace hz := hz.r (a := 0) (j := 6) (x := some 61) (by omega)
  refine wx_aload_n dX11_init_81 rfl ?_
  refine wz_new (k' := 69) (cu' := 68) (su' := 2619) hz dX11_init_82 (by decide) cl_X11_58 (by decide) rfl rfl rfl (by omega) (by omega) ?_
  replace hz := hz.mono (k' := 69) (by omega)
  refine wx_dup dX11_init_85 rfl ?_
  refine wz_init dX11_init_86 ml_X11_60 my_X7_init iv_X7_init (ib_68 (d := d - 1) (by omega) hz) (by omega) (by exact Nat.le_of_ble_eq_true rfl) (cu' := 72) (su' := 2983) rfl rfl (by omega) (by omega) ?_
  replace hz := iZ_68 hz
  refine wx_putR dX11_init_89 fl_X11_61 (shk_at (q := (11, 0)) (show 0 < 73 by omega) (by decide)) (Or.inl rfl) rfl (fun _ => ⟨rfl, rfl⟩) ?_
  replace hz := hz.r (a := 0) (j := 7) (x := some 68) (by omega)
  refine wx_vret dX11_init_92 (by omega) (by omega) ?_
  exact ⟨rfl, rfl, rfl, rfl, rfl, rfl⟩
theorem iZ_0 {M : px_M} {L : px_L} {R : px_R} (hz : Zs 1 M L R) : Zs 73 (iM_0 M) L (iR_0 R) := by
  unfold iR_0 iM_0
  replace hz := hz.mono (k' := 1) (by omega)
  replace hz := hz.mono (k' := 2) (by omega)
  replace hz := iZ_1 hz
  replace hz := hz.r (a := 0) (j := 0) (x := some 1) (by omega)
  replace hz := hz.mono (k' := 7) (by omega)
  replace hz := iZ_6 hz
  replace hz := hz.r (a := 0) (j := 1) (x := some 6) (by omega)
  replace hz := hz.mono (k' := 15) (by omega)
  replace hz := iZ_14 hz
  replace hz := hz.r (a := 0) (j := 2) (x := some 14) (by omega)
  replace hz := hz.mono (k' := 21) (by omega)
  replace hz := iZ_20 hz
  replace hz := hz.r (a := 0) (j := 3) (x := some 20) (by omega)
  replace hz := hz.mono (k' := 28) (by omega)
  replace hz := iZ_27 hz
  replace hz := hz.r (a := 0) (j := 4) (x := some 27) (by omega)
  replace hz := hz.mono (k' := 41) (by omega)
  replace hz := iZ_40 hz
  replace hz := hz.r (a := 0) (j := 5) (x := some 40) (by omega)
  replace hz := hz.mono (k' := 62) (by omega)
  replace hz := iZ_61 hz
  replace hz := hz.r (a := 0) (j := 6) (x := some 61) (by omega)
  replace hz := hz.mono (k' := 69) (by omega)
  replace hz := iZ_68 hz
  replace hz := hz.r (a := 0) (j := 7) (x := some 68) (by omega)
  exact hz
def iR_73 (R : px_R) : px_R := px_u (px_u (px_u (px_u (px_u (px_u (px_u (px_u (px_c (px_u (px_u (px_u (px_u (px_u (px_u (px_u (px_u (px_u (px_u (px_u (px_u (px_u (px_u (px_u (px_u (px_u (px_u (px_u (px_u (px_u (px_u (px_u (px_c (px_u (px_c (px_u (px_u (px_u (px_u (px_u (px_u (px_u (px_u (px_u (px_u (px_u (px_u (px_u (px_u (px_u (px_u (px_u (px_u (px_u (R) 73 4 (some 74)) 73 5 (some 75)) 73 6 (some 76)) 73 7 (some 77)) 73 8 (some 78)) 73 13 (some 79)) 73 14 (some 80)) 73 15 (some 81)) 73 16 (some 82)) 73 17 (some 83)) 73 18 (some 84)) 73 19 (some 85)) 73 20 (some 86)) 73 21 (some 87)) 73 22 (some 88)) 73 23 (some 89)) 73 29 (some 90)) 73 30 (some 91)) 73 31 (some 92)) 93 (fun q => some (93 + 1 + q))) 73 32 (some 93)) 135 (fun q => some (135 + 1 + q))) 73 33 (some 135)) 73 39 (some 177)) 73 40 (some 178)) 73 42 (some 179)) 73 43 (some 180)) 73 44 (some 181)) 73 45 (some 182)) 73 46 (some 183)) 73 47 (some 184)) 73 50 (some 185)) 73 51 (some 186)) 73 52 (some 187)) 73 53 (some 188)) 73 54 (some 189)) 73 55 (some 190)) 73 56 (some 191)) 73 60 (some 192)) 73 61 (some 193)) 73 62 (some 194)) 73 63 (some 195)) 73 64 (some 196)) 73 65 (some 197)) 73 66 (some 198)) 199 (fun q => some (199 + 1 + q))) 73 67 (some 199)) 73 68 (some 212)) 73 69 (some 213)) 73 70 (some 214)) 73 73 (some 215)) 73 74 (some 216)) 73 75 (some 217)) 73 76 (some 218)
def iM_73 (M : px_M) : px_M := px_u (px_u (px_u (M) 73 25 100) 73 28 (-1)) 73 38 (-1)
set_option maxRecDepth 100000 in
theorem ib_73 {d : Nat} {X : Nat × (Nat → Int32)} {M : px_M} {L : px_L} {R : px_R} (hd : 1 ≤ d) (hz : Zs 74 M L R) : MX yX12_init cX12_init 1 none d 145 1521199 X [.ref 73] (shk 74) M L R 74 (px_pu none (shk 219) (iM_73 M) L (iR_73 R) 219) := by
  refine MX.of (by decide +kernel) (by exact Nat.le_of_ble_eq_true rfl) ?_
  refine wx_aload_n dX12_init_0 rfl ?_
  refine wx_objInit dX12_init_1 oi_X12_1 (by omega) (by exact Nat.le_of_ble_eq_true rfl) ?_
  refine wx_aload_n dX12_init_4 rfl ?_
  refine wx_bipush (v := 8) dX12_init_5 (by decide) ?_
  refine wz_newarr (kd := 13) (N := 8) (k' := 75) (cu' := 1) (su' := 8) hz dX12_init_7 (by decide) rfl ac_13 (by decide) (by decide) (by decide) (by decide) rfl rfl rfl (by omega) (by omega) ?_
  replace hz := hz.mono (k' := 75) (by omega)
  refine wx_putR dX12_init_9 fl_X12_7 (shk_at (q := (12, 0)) (show 73 < 75 by omega) (by decide)) (Or.inr ⟨rfl, rfl, rfl, px_mem 1619 (by decide +kernel) rfl⟩) rfl (fun _ => ⟨rfl, rfl⟩) ?_
  replace hz := hz.r (a := 73) (j := 4) (x := some 74) (by omega)
  refine wx_aload_n dX12_init_12 rfl ?_
  refine wx_bipush (v := 8) dX12_init_13 (by decide) ?_
  refine wz_newarr (kd := 13) (N := 8) (k' := 76) (cu' := 2) (su' := 16) hz dX12_init_15 (by decide) rfl ac_13 (by decide) (by decide) (by decide) (by decide) rfl rfl rfl (by omega) (by omega) ?_
  replace hz := hz.mono (k' := 76) (by omega)
  refine wx_putR dX12_init_17 fl_X12_13 (shk_at (q := (12, 0)) (show 73 < 76 by omega) (by decide)) (Or.inr ⟨rfl, rfl, rfl, px_mem 1620 (by decide +kernel) rfl⟩) rfl (fun _ => ⟨rfl, rfl⟩) ?_
  replace hz := hz.r (a := 73) (j := 5) (x := some 75) (by omega)
  refine wx_aload_n dX12_init_20 rfl ?_
  refine wx_bipush (v := 8) dX12_init_21 (by decide) ?_
  refine wz_newarr (kd := 13) (N := 8) (k' := 77) (cu' := 3) (su' := 24) hz dX12_init_23 (by decide) rfl ac_13 (by decide) (by decide) (by decide) (by decide) rfl rfl rfl (by omega) (by omega) ?_
  replace hz := hz.mono (k' := 77) (by omega)
  refine wx_putR dX12_init_25 fl_X12_16 (shk_at (q := (12, 0)) (show 73 < 77 by omega) (by decide)) (Or.inr ⟨rfl, rfl, rfl, px_mem 1621 (by decide +kernel) rfl⟩) rfl (fun _ => ⟨rfl, rfl⟩) ?_
  replace hz := hz.r (a := 73) (j := 6) (x := some 76) (by omega)
  refine wx_aload_n dX12_init_28 rfl ?_
  refine wx_bipush (v := 8) dX12_init_29 (by decide) ?_
  refine wz_newarr (kd := 13) (N := 8) (k' := 78) (cu' := 4) (su' := 32) hz dX12_init_31 (by decide) rfl ac_13 (by decide) (by decide) (by decide) (by decide) rfl rfl rfl (by omega) (by omega) ?_
  replace hz := hz.mono (k' := 78) (by omega)
  refine wx_putR dX12_init_33 fl_X12_19 (shk_at (q := (12, 0)) (show 73 < 78 by omega) (by decide)) (Or.inr ⟨rfl, rfl, rfl, px_mem 1622 (by decide +kernel) rfl⟩) rfl (fun _ => ⟨rfl, rfl⟩) ?_
  replace hz := hz.r (a := 73) (j := 7) (x := some 77) (by omega)
  refine wx_aload_n dX12_init_36 rfl ?_
  refine wx_bipush (v := 8) dX12_init_37 (by decide) ?_
  refine wz_newarr (kd := 15) (N := 8) (k' := 79) (cu' := 5) (su' := 40) hz dX12_init_39 (by decide) rfl ac_15 (by decide) (by decide) (by decide) (by decide) rfl rfl rfl (by omega) (by omega) ?_
  replace hz := hz.mono (k' := 79) (by omega)
  refine wx_putR dX12_init_41 fl_X12_22 (shk_at (q := (12, 0)) (show 73 < 79 by omega) (by decide)) (Or.inr ⟨rfl, rfl, rfl, px_mem 1623 (by decide +kernel) rfl⟩) rfl (fun _ => ⟨rfl, rfl⟩) ?_
  replace hz := hz.r (a := 73) (j := 8) (x := some 78) (by omega)
  refine wx_aload_n dX12_init_44 rfl ?_
  refine wx_bipush (v := 16) dX12_init_45 (by decide) ?_
  refine wz_newarr (kd := 13) (N := 16) (k' := 80) (cu' := 6) (su' := 56) hz dX12_init_47 (by decide) rfl ac_13 (by decide) (by decide) (by decide) (by decide) rfl rfl rfl (by omega) (by omega) ?_
  replace hz := hz.mono (k' := 80) (by omega)
  refine wx_putR dX12_init_49 fl_X12_26 (shk_at (q := (12, 0)) (show 73 < 80 by omega) (by decide)) (Or.inr ⟨rfl, rfl, rfl, px_mem 1628 (by decide +kernel) rfl⟩) rfl (fun _ => ⟨rfl, rfl⟩) ?_
  replace hz := hz.r (a := 73) (j := 13) (x := some 79) (by omega)
  refine wx_aload_n dX12_init_52 rfl ?_
  refine wx_bipush (v := 16) dX12_init_53 (by decide) ?_
  refine wz_newarr (kd := 13) (N := 16) (k' := 81) (cu' := 7) (su' := 72) hz dX12_init_55 (by decide) rfl ac_13 (by decide) (by decide) (by decide) (by decide) rfl rfl rfl (by omega) (by omega) ?_
  replace hz := hz.mono (k' := 81) (by omega)
  refine wx_putR dX12_init_57 fl_X12_29 (shk_at (q := (12, 0)) (show 73 < 81 by omega) (by decide)) (Or.inr ⟨rfl, rfl, rfl, px_mem 1629 (by decide +kernel) rfl⟩) rfl (fun _ => ⟨rfl, rfl⟩) ?_
  replace hz := hz.r (a := 73) (j := 14) (x := some 80) (by omega)
  refine wx_aload_n dX12_init_60 rfl ?_
  refine wx_bipush (v := 16) dX12_init_61 (by decide) ?_
  refine wz_newarr (kd := 13) (N := 16) (k' := 82) (cu' := 8) (su' := 88) hz dX12_init_63 (by decide) rfl ac_13 (by decide) (by decide) (by decide) (by decide) rfl rfl rfl (by omega) (by omega) ?_
  replace hz := hz.mono (k' := 82) (by omega)
  refine wx_putR dX12_init_65 fl_X12_32 (shk_at (q := (12, 0)) (show 73 < 82 by omega) (by decide)) (Or.inr ⟨rfl, rfl, rfl, px_mem 1630 (by decide +kernel) rfl⟩) rfl (fun _ => ⟨rfl, rfl⟩) ?_
  replace hz := hz.r (a := 73) (j := 15) (x := some 81) (by omega)
  refine wx_aload_n dX12_init_68 rfl ?_
  refine wx_bipush (v := 16) dX12_init_69 (by decide) ?_
  refine wz_newarr (kd := 13) (N := 16) (k' := 83) (cu' := 9) (su' := 104) hz dX12_init_71 (by decide) rfl ac_13 (by decide) (by decide) (by decide) (by decide) rfl rfl rfl (by omega) (by omega) ?_
  replace hz := hz.mono (k' := 83) (by omega)
  refine wx_putR dX12_init_73 fl_X12_35 (shk_at (q := (12, 0)) (show 73 < 83 by omega) (by decide)) (Or.inr ⟨rfl, rfl, rfl, px_mem 1631 (by decide +kernel) rfl⟩) rfl (fun _ => ⟨rfl, rfl⟩) ?_
  replace hz := hz.r (a := 73) (j := 16) (x := some 82) (by omega)
  refine wx_aload_n dX12_init_76 rfl ?_
  refine wx_bipush (v := 16) dX12_init_77 (by decide) ?_
  refine wz_newarr (kd := 13) (N := 16) (k' := 84) (cu' := 10) (su' := 120) hz dX12_init_79 (by decide) rfl ac_13 (by decide) (by decide) (by decide) (by decide) rfl rfl rfl (by omega) (by omega) ?_
  replace hz := hz.mono (k' := 84) (by omega)
  refine wx_putR dX12_init_81 fl_X12_38 (shk_at (q := (12, 0)) (show 73 < 84 by omega) (by decide)) (Or.inr ⟨rfl, rfl, rfl, px_mem 1632 (by decide +kernel) rfl⟩) rfl (fun _ => ⟨rfl, rfl⟩) ?_
  replace hz := hz.r (a := 73) (j := 17) (x := some 83) (by omega)
  refine wx_aload_n dX12_init_84 rfl ?_
  refine wx_bipush (v := 16) dX12_init_85 (by decide) ?_
  refine wz_newarr (kd := 13) (N := 16) (k' := 85) (cu' := 11) (su' := 136) hz dX12_init_87 (by decide) rfl ac_13 (by decide) (by decide) (by decide) (by decide) rfl rfl rfl (by omega) (by omega) ?_
  replace hz := hz.mono (k' := 85) (by omega)
  refine wx_putR dX12_init_89 fl_X12_41 (shk_at (q := (12, 0)) (show 73 < 85 by omega) (by decide)) (Or.inr ⟨rfl, rfl, rfl, px_mem 1633 (by decide +kernel) rfl⟩) rfl (fun _ => ⟨rfl, rfl⟩) ?_
  replace hz := hz.r (a := 73) (j := 18) (x := some 84) (by omega)
  refine wx_aload_n dX12_init_92 rfl ?_
  refine wx_bipush (v := 16) dX12_init_93 (by decide) ?_
  refine wz_newarr (kd := 13) (N := 16) (k' := 86) (cu' := 12) (su' := 152) hz dX12_init_95 (by decide) rfl ac_13 (by decide) (by decide) (by decide) (by decide) rfl rfl rfl (by omega) (by omega) ?_
  replace hz := hz.mono (k' := 86) (by omega)
  refine wx_putR dX12_init_97 fl_X12_44 (shk_at (q := (12, 0)) (show 73 < 86 by omega) (by decide)) (Or.inr ⟨rfl, rfl, rfl, px_mem 1634 (by decide +kernel) rfl⟩) rfl (fun _ => ⟨rfl, rfl⟩) ?_
  replace hz := hz.r (a := 73) (j := 19) (x := some 85) (by omega)
  refine wx_aload_n dX12_init_100 rfl ?_
  refine wx_bipush (v := 16) dX12_init_101 (by decide) ?_
  refine wz_newarr (kd := 15) (N := 16) (k' := 87) (cu' := 13) (su' := 168) hz dX12_init_103 (by decide) rfl ac_15 (by decide) (by decide) (by decide) (by decide) rfl rfl rfl (by omega) (by omega) ?_
  replace hz := hz.mono (k' := 87) (by omega)
  refine wx_putR dX12_init_105 fl_X12_47 (shk_at (q := (12, 0)) (show 73 < 87 by omega) (by decide)) (Or.inr ⟨rfl, rfl, rfl, px_mem 1635 (by decide +kernel) rfl⟩) rfl (fun _ => ⟨rfl, rfl⟩) ?_
  replace hz := hz.r (a := 73) (j := 20) (x := some 86) (by omega)
  refine wx_aload_n dX12_init_108 rfl ?_
  refine wx_iconst (v := 4) dX12_init_109 (by decide) ?_
  refine wz_newarr (kd := 13) (N := 4) (k' := 88) (cu' := 14) (su' := 172) hz dX12_init_110 (by decide) rfl ac_13 (by decide) (by decide) (by decide) (by decide) rfl rfl rfl (by omega) (by omega) ?_
  replace hz := hz.mono (k' := 88) (by omega)
  refine wx_putR dX12_init_112 fl_X12_50 (shk_at (q := (12, 0)) (show 73 < 88 by omega) (by decide)) (Or.inr ⟨rfl, rfl, rfl, px_mem 1636 (by decide +kernel) rfl⟩) rfl (fun _ => ⟨rfl, rfl⟩) ?_
  replace hz := hz.r (a := 73) (j := 21) (x := some 87) (by omega)
  refine wx_aload_n dX12_init_115 rfl ?_
  refine wx_iconst (v := 4) dX12_init_116 (by decide) ?_
  refine wz_newarr (kd := 13) (N := 4) (k' := 89) (cu' := 15) (su' := 176) hz dX12_init_117 (by decide) rfl ac_13 (by decide) (by decide) (by decide) (by decide) rfl rfl rfl (by omega) (by omega) ?_
  replace hz := hz.mono (k' := 89) (by omega)
  refine wx_putR dX12_init_119 fl_X12_53 (shk_at (q := (12, 0)) (show 73 < 89 by omega) (by decide)) (Or.inr ⟨rfl, rfl, rfl, px_mem 1637 (by decide +kernel) rfl⟩) rfl (fun _ => ⟨rfl, rfl⟩) ?_
  replace hz := hz.r (a := 73) (j := 22) (x := some 88) (by omega)
  refine wx_aload_n dX12_init_122 rfl ?_
  refine wx_iconst (v := 4) dX12_init_123 (by decide) ?_
  refine wz_newarr (kd := 15) (N := 4) (k' := 90) (cu' := 16) (su' := 180) hz dX12_init_124 (by decide) rfl ac_15 (by decide) (by decide) (by decide) (by decide) rfl rfl rfl (by omega) (by omega) ?_
  replace hz := hz.mono (k' := 90) (by omega)
  refine wx_putR dX12_init_126 fl_X12_56 (shk_at (q := (12, 0)) (show 73 < 90 by omega) (by decide)) (Or.inr ⟨rfl, rfl, rfl, px_mem 1638 (by decide +kernel) rfl⟩) rfl (fun _ => ⟨rfl, rfl⟩) ?_
  replace hz := hz.r (a := 73) (j := 23) (x := some 89) (by omega)
  refine wx_aload_n dX12_init_129 rfl ?_
  refine wx_bipush (v := 100) dX12_init_130 (by decide) ?_
  refine wx_putI dX12_init_132 fl_X12_59 (shk_at (q := (12, 0)) (show 73 < 90 by omega) (by decide)) (Or.inl rfl) rfl ⟨rfl, rfl⟩ ?_
  replace hz := hz.m (a := 73) (j := 25) (x := 100) (by omega)
  refine wx_aload_n dX12_init_135 rfl ?_
  refine wx_iconst (v := (-1)) dX12_init_136 (by decide) ?_
  refine wx_putI dX12_init_137 fl_X12_63 (shk_at (q := (12, 0)) (show 73 < 90 by omega) (by decide)) (Or.inl rfl) rfl ⟨rfl, rfl⟩ ?_
  replace hz := hz.m (a := 73) (j := 28) (x := (-1)) (by omega)
  refine wx_aload_n dX12_init_140 rfl ?_
  refine wx_iconst (v := 4) dX12_init_141 (by decide) ?_
  refine wz_newarr (kd := 13) (N := 4) (k' := 91) (cu' := 17) (su' := 184) hz dX12_init_142 (by decide) rfl ac_13 (by decide) (by decide) (by decide) (by decide) rfl rfl rfl (by omega) (by omega) ?_
  replace hz := hz.mono (k' := 91) (by omega)
  refine wx_putR dX12_init_144 fl_X12_66 (shk_at (q := (12, 0)) (show 73 < 91 by omega) (by decide)) (Or.inr ⟨rfl, rfl, rfl, px_mem 1644 (by decide +kernel) rfl⟩) rfl (fun _ => ⟨rfl, rfl⟩) ?_
  replace hz := hz.r (a := 73) (j := 29) (x := some 90) (by omega)
  refine wx_aload_n dX12_init_147 rfl ?_
  refine wx_iconst (v := 4) dX12_init_148 (by decide) ?_
  refine wz_newarr (kd := 13) (N := 4) (k' := 92) (cu' := 18) (su' := 188) hz dX12_init_149 (by decide) rfl ac_13 (by decide) (by decide) (by decide) (by decide) rfl rfl rfl (by omega) (by omega) ?_
  replace hz := hz.mono (k' := 92) (by omega)
  refine wx_putR dX12_init_151 fl_X12_69 (shk_at (q := (12, 0)) (show 73 < 92 by omega) (by decide)) (Or.inr ⟨rfl, rfl, rfl, px_mem 1645 (by decide +kernel) rfl⟩) rfl (fun _ => ⟨rfl, rfl⟩) ?_
  replace hz := hz.r (a := 73) (j := 30) (x := some 91) (by omega)
  refine wx_aload_n dX12_init_154 rfl ?_
  refine wx_iconst (v := 4) dX12_init_155 (by decide) ?_
  refine wz_newarr (kd := 13) (N := 4) (k' := 93) (cu' := 19) (su' := 192) hz dX12_init_156 (by decide) rfl ac_13 (by decide) (by decide) (by decide) (by decide) rfl rfl rfl (by omega) (by omega) ?_
  replace hz := hz.mono (k' := 93) (by omega)
  refine wx_putR dX12_init_158 fl_X12_72 (shk_at (q := (12, 0)) (show 73 < 93 by omega) (by decide)) (Or.inr ⟨rfl, rfl, rfl, px_mem 1646 (by decide +kernel) rfl⟩) rfl (fun _ => ⟨rfl, rfl⟩) ?_
  replace hz := hz.r (a := 73) (j := 31) (x := some 92) (by omega)
  refine wx_aload_n dX12_init_161 rfl ?_
  refine wx_bipush (v := 41) dX12_init_162 (by decide) ?_
  refine wx_sipush (v := 18432) dX12_init_164 (by decide) ?_
  refine wz_multi (kd := 19) (ki := 15) (N := 41) (K := 18432) (k' := 135) (cu' := 61) (su' := 755945) hz dX12_init_167 (Or.inr ⟨rfl, rfl⟩) cm_X12_75 (by decide) (by decide) (by decide) (by decide) (by decide) (by decide) (by decide) (by decide) rfl rfl rfl (by omega) (by omega) ?_
  replace hz := hz.rw (N := 41) (n' := 135) (w := fun q => some (93 + 1 + q)) rfl
  refine wx_putR dX12_init_171 fl_X12_77 (shk_at (q := (12, 0)) (show 73 < 135 by omega) (by decide)) (Or.inr ⟨rfl, rfl, rfl, px_mem 1647 (by decide +kernel) rfl⟩) rfl (fun _ => ⟨rfl, rfl⟩) ?_
  replace hz := hz.r (a := 73) (j := 32) (x := some 93) (by omega)
  refine wx_aload_n dX12_init_174 rfl ?_
  refine wx_bipush (v := 41) dX12_init_175 (by decide) ?_
  refine wx_sipush (v := 18432) dX12_init_177 (by decide) ?_
  refine wz_multi (kd := 19) (ki := 15) (N := 41) (K := 18432) (k' := 177) (cu' := 103) (su' := 1511698) hz dX12_init_180 (Or.inr ⟨rfl, rfl⟩) cm_X12_75 (by decide) (by decide) (by decide) (by decide) (by decide) (by decide) (by decide) (by decide) rfl rfl rfl (by omega) (by omega) ?_
  replace hz := hz.rw (N := 41) (n' := 177) (w := fun q => some (135 + 1 + q)) rfl
  refine wx_putR dX12_init_184 fl_X12_80 (shk_at (q := (12, 0)) (show 73 < 177 by omega) (by decide)) (Or.inr ⟨rfl, rfl, rfl, px_mem 1648 (by decide +kernel) rfl⟩) rfl (fun _ => ⟨rfl, rfl⟩) ?_
  replace hz := hz.r (a := 73) (j := 33) (x := some 135) (by omega)
  refine wx_aload_n dX12_init_187 rfl ?_
  refine wx_iconst (v := (-1)) dX12_init_188 (by decide) ?_
  refine wx_putI dX12_init_189 fl_X12_83 (shk_at (q := (12, 0)) (show 73 < 177 by omega) (by decide)) (Or.inl rfl) rfl ⟨rfl, rfl⟩ ?_
  replace hz := hz.m (a := 73) (j := 38) (x := (-1)) (by omega)
  refine wx_aload_n dX12_init_192 rfl ?_
  refine wx_sipush (v := 300) dX12_init_193 (by decide) ?_
  refine wz_newarr (kd := 13) (N := 300) (k' := 178) (cu' := 104) (su' := 1511998) hz dX12_init_196 (by decide) rfl ac_13 (by decide) (by decide) (by decide) (by decide) rfl rfl rfl (by omega) (by omega) ?_
  replace hz := hz.mono (k' := 178) (by omega)
  refine wx_putR dX12_init_198 fl_X12_86 (shk_at (q := (12, 0)) (show 73 < 178 by omega) (by decide)) (Or.inr ⟨rfl, rfl, rfl, px_mem 1654 (by decide +kernel) rfl⟩) rfl (fun _ => ⟨rfl, rfl⟩) ?_
  replace hz := hz.r (a := 73) (j := 39) (x := some 177) (by omega)
  refine wx_aload_n dX12_init_201 rfl ?_
  refine wx_sipush (v := 300) dX12_init_202 (by decide) ?_
  refine wz_newarr (kd := 13) (N := 300) (k' := 179) (cu' := 105) (su' := 1512298) hz dX12_init_205 (by decide) rfl ac_13 (by decide) (by decide) (by decide) (by decide) rfl rfl rfl (by omega) (by omega) ?_
  replace hz := hz.mono (k' := 179) (by omega)
  refine wx_putR dX12_init_207 fl_X12_89 (shk_at (q := (12, 0)) (show 73 < 179 by omega) (by decide)) (Or.inr ⟨rfl, rfl, rfl, px_mem 1655 (by decide +kernel) rfl⟩) rfl (fun _ => ⟨rfl, rfl⟩) ?_
  replace hz := hz.r (a := 73) (j := 40) (x := some 178) (by omega)
  refine wx_aload_n dX12_init_210 rfl ?_
  refine wx_bipush (v := 20) dX12_init_211 (by decide) ?_
  refine wz_newarr (kd := 13) (N := 20) (k' := 180) (cu' := 106) (su' := 1512318) hz dX12_init_213 (by decide) rfl ac_13 (by decide) (by decide) (by decide) (by decide) rfl rfl rfl (by omega) (by omega) ?_
  replace hz := hz.mono (k' := 180) (by omega)
  refine wx_putR dX12_init_215 fl_X12_92 (shk_at (q := (12, 0)) (show 73 < 180 by omega) (by decide)) (Or.inr ⟨rfl, rfl, rfl, px_mem 1657 (by decide +kernel) rfl⟩) rfl (fun _ => ⟨rfl, rfl⟩) ?_
  replace hz := hz.r (a := 73) (j := 42) (x := some 179) (by omega)
  refine wx_aload_n dX12_init_218 rfl ?_
  refine wx_bipush (v := 20) dX12_init_219 (by decide) ?_
  refine wz_newarr (kd := 13) (N := 20) (k' := 181) (cu' := 107) (su' := 1512338) hz dX12_init_221 (by decide) rfl ac_13 (by decide) (by decide) (by decide) (by decide) rfl rfl rfl (by omega) (by omega) ?_
  replace hz := hz.mono (k' := 181) (by omega)
  refine wx_putR dX12_init_223 fl_X12_95 (shk_at (q := (12, 0)) (show 73 < 181 by omega) (by decide)) (Or.inr ⟨rfl, rfl, rfl, px_mem 1658 (by decide +kernel) rfl⟩) rfl (fun _ => ⟨rfl, rfl⟩) ?_
  replace hz := hz.r (a := 73) (j := 43) (x := some 180) (by omega)
  refine wx_aload_n dX12_init_226 rfl ?_
  refine wx_sipush (v := 2000) dX12_init_227 (by decide) ?_
  refine wz_newarr (kd := 13) (N := 2000) (k' := 182) (cu' := 108) (su' := 1514338) hz dX12_init_230 (by decide) rfl ac_13 (by decide) (by decide) (by decide) (by decide) rfl rfl rfl (by omega) (by omega) ?_
  replace hz := hz.mono (k' := 182) (by omega)
  refine wx_putR dX12_init_232 fl_X12_98 (shk_at (q := (12, 0)) (show 73 < 182 by omega) (by decide)) (Or.inr ⟨rfl, rfl, rfl, px_mem 1659 (by decide +kernel) rfl⟩) rfl (fun _ => ⟨rfl, rfl⟩) ?_
  replace hz := hz.r (a := 73) (j := 44) (x := some 181) (by omega)
  refine wx_aload_n dX12_init_235 rfl ?_
  refine wx_sipush (v := 2000) dX12_init_236 (by decide) ?_
  refine wz_newarr (kd := 13) (N := 2000) (k' := 183) (cu' := 109) (su' := 1516338) hz dX12_init_239 (by decide) rfl ac_13 (by decide) (by decide) (by decide) (by decide) rfl rfl rfl (by omega) (by omega) ?_
  replace hz := hz.mono (k' := 183) (by omega)
  refine wx_putR dX12_init_241 fl_X12_101 (shk_at (q := (12, 0)) (show 73 < 183 by omega) (by decide)) (Or.inr ⟨rfl, rfl, rfl, px_mem 1660 (by decide +kernel) rfl⟩) rfl (fun _ => ⟨rfl, rfl⟩) ?_
  replace hz := hz.r (a := 73) (j := 45) (x := some 182) (by omega)
  refine wx_aload_n dX12_init_244 rfl ?_
  refine wx_sipush (v := 2000) dX12_init_245 (by decide) ?_
  refine wz_newarr (kd := 13) (N := 2000) (k' := 184) (cu' := 110) (su' := 1518338) hz dX12_init_248 (by decide) rfl ac_13 (by decide) (by decide) (by decide) (by decide) rfl rfl rfl (by omega) (by omega) ?_
  replace hz := hz.mono (k' := 184) (by omega)
  refine wx_putR dX12_init_250 fl_X12_104 (shk_at (q := (12, 0)) (show 73 < 184 by omega) (by decide)) (Or.inr ⟨rfl, rfl, rfl, px_mem 1661 (by decide +kernel) rfl⟩) rfl (fun _ => ⟨rfl, rfl⟩) ?_
  replace hz := hz.r (a := 73) (j := 46) (x := some 183) (by omega)
  refine wx_aload_n dX12_init_253 rfl ?_
  refine wx_sipush (v := 2000) dX12_init_254 (by decide) ?_
  refine wz_newarr (kd := 13) (N := 2000) (k' := 185) (cu' := 111) (su' := 1520338) hz dX12_init_257 (by decide) rfl ac_13 (by decide) (by decide) (by decide) (by decide) rfl rfl rfl (by omega) (by omega) ?_
  replace hz := hz.mono (k' := 185) (by omega)
  refine wx_putR dX12_init_259 fl_X12_107 (shk_at (q := (12, 0)) (show 73 < 185 by omega) (by decide)) (Or.inr ⟨rfl, rfl, rfl, px_mem 1662 (by decide +kernel) rfl⟩) rfl (fun _ => ⟨rfl, rfl⟩) ?_
  replace hz := hz.r (a := 73) (j := 47) (x := some 184) (by omega)
  refine wx_aload_n dX12_init_262 rfl ?_
  refine wx_iconst (v := 5) dX12_init_263 (by decide) ?_
  refine wz_newarr (kd := 13) (N := 5) (k' := 186) (cu' := 112) (su' := 1520343) hz dX12_init_264 (by decide) rfl ac_13 (by decide) (by decide) (by decide) (by decide) rfl rfl rfl (by omega) (by omega) ?_
  replace hz := hz.mono (k' := 186) (by omega)
  refine wx_putR dX12_init_266 fl_X12_110 (shk_at (q := (12, 0)) (show 73 < 186 by omega) (by decide)) (Or.inr ⟨rfl, rfl, rfl, px_mem 1665 (by decide +kernel) rfl⟩) rfl (fun _ => ⟨rfl, rfl⟩) ?_
  replace hz := hz.r (a := 73) (j := 50) (x := some 185) (by omega)
  refine wx_aload_n dX12_init_269 rfl ?_
  refine wx_iconst (v := 5) dX12_init_270 (by decide) ?_
  refine wz_newarr (kd := 13) (N := 5) (k' := 187) (cu' := 113) (su' := 1520348) hz dX12_init_271 (by decide) rfl ac_13 (by decide) (by decide) (by decide) (by decide) rfl rfl rfl (by omega) (by omega) ?_
  replace hz := hz.mono (k' := 187) (by omega)
  refine wx_putR dX12_init_273 fl_X12_113 (shk_at (q := (12, 0)) (show 73 < 187 by omega) (by decide)) (Or.inr ⟨rfl, rfl, rfl, px_mem 1666 (by decide +kernel) rfl⟩) rfl (fun _ => ⟨rfl, rfl⟩) ?_
  replace hz := hz.r (a := 73) (j := 51) (x := some 186) (by omega)
  refine wx_aload_n dX12_init_276 rfl ?_
  refine wx_bipush (v := 6) dX12_init_277 (by decide) ?_
  refine wz_newarr (kd := 13) (N := 6) (k' := 188) (cu' := 114) (su' := 1520354) hz dX12_init_279 (by decide) rfl ac_13 (by decide) (by decide) (by decide) (by decide) rfl rfl rfl (by omega) (by omega) ?_
  replace hz := hz.mono (k' := 188) (by omega)
  refine wx_putR dX12_init_281 fl_X12_116 (shk_at (q := (12, 0)) (show 73 < 188 by omega) (by decide)) (Or.inr ⟨rfl, rfl, rfl, px_mem 1667 (by decide +kernel) rfl⟩) rfl (fun _ => ⟨rfl, rfl⟩) ?_
  replace hz := hz.r (a := 73) (j := 52) (x := some 187) (by omega)
  refine wx_aload_n dX12_init_284 rfl ?_
  refine wx_bipush (v := 6) dX12_init_285 (by decide) ?_
  refine wz_newarr (kd := 13) (N := 6) (k' := 189) (cu' := 115) (su' := 1520360) hz dX12_init_287 (by decide) rfl ac_13 (by decide) (by decide) (by decide) (by decide) rfl rfl rfl (by omega) (by omega) ?_
  replace hz := hz.mono (k' := 189) (by omega)
  refine wx_putR dX12_init_289 fl_X12_119 (shk_at (q := (12, 0)) (show 73 < 189 by omega) (by decide)) (Or.inr ⟨rfl, rfl, rfl, px_mem 1668 (by decide +kernel) rfl⟩) rfl (fun _ => ⟨rfl, rfl⟩) ?_
  replace hz := hz.r (a := 73) (j := 53) (x := some 188) (by omega)
  refine wx_aload_n dX12_init_292 rfl ?_
  refine wx_bipush (v := 6) dX12_init_293 (by decide) ?_
  refine wz_newarr (kd := 13) (N := 6) (k' := 190) (cu' := 116) (su' := 1520366) hz dX12_init_295 (by decide) rfl ac_13 (by decide) (by decide) (by decide) (by decide) rfl rfl rfl (by omega) (by omega) ?_
  replace hz := hz.mono (k' := 190) (by omega)
  refine wx_putR dX12_init_297 fl_X12_122 (shk_at (q := (12, 0)) (show 73 < 190 by omega) (by decide)) (Or.inr ⟨rfl, rfl, rfl, px_mem 1669 (by decide +kernel) rfl⟩) rfl (fun _ => ⟨rfl, rfl⟩) ?_
  replace hz := hz.r (a := 73) (j := 54) (x := some 189) (by omega)
  refine wx_aload_n dX12_init_300 rfl ?_
  refine wx_iconst (v := 4) dX12_init_301 (by decide) ?_
  refine wz_newarr (kd := 13) (N := 4) (k' := 191) (cu' := 117) (su' := 1520370) hz dX12_init_302 (by decide) rfl ac_13 (by decide) (by decide) (by decide) (by decide) rfl rfl rfl (by omega) (by omega) ?_
  replace hz := hz.mono (k' := 191) (by omega)
  refine wx_putR dX12_init_304 fl_X12_125 (shk_at (q := (12, 0)) (show 73 < 191 by omega) (by decide)) (Or.inr ⟨rfl, rfl, rfl, px_mem 1670 (by decide +kernel) rfl⟩) rfl (fun _ => ⟨rfl, rfl⟩) ?_
  replace hz := hz.r (a := 73) (j := 55) (x := some 190) (by omega)
  refine wx_aload_n dX12_init_307 rfl ?_
  refine wx_sipush (v := 625) dX12_init_308 (by decide) ?_
  refine wz_newarr (kd := 13) (N := 625) (k' := 192) (cu' := 118) (su' := 1520995) hz dX12_init_311 (by decide) rfl ac_13 (by decide) (by decide) (by decide) (by decide) rfl rfl rfl (by omega) (by omega) ?_
  replace hz := hz.mono (k' := 192) (by omega)
  refine wx_putR dX12_init_313 fl_X12_128 (shk_at (q := (12, 0)) (show 73 < 192 by omega) (by decide)) (Or.inr ⟨rfl, rfl, rfl, px_mem 1671 (by decide +kernel) rfl⟩) rfl (fun _ => ⟨rfl, rfl⟩) ?_
  replace hz := hz.r (a := 73) (j := 56) (x := some 191) (by omega)
  refine wx_aload_n dX12_init_316 rfl ?_
  refine wx_bipush (v := 6) dX12_init_317 (by decide) ?_
  refine wz_newarr (kd := 13) (N := 6) (k' := 193) (cu' := 119) (su' := 1521001) hz dX12_init_319 (by decide) rfl ac_13 (by decide) (by decide) (by decide) (by decide) rfl rfl rfl (by omega) (by omega) ?_
  replace hz := hz.mono (k' := 193) (by omega)
  refine wx_putR dX12_init_321 fl_X12_131 (shk_at (q := (12, 0)) (show 73 < 193 by omega) (by decide)) (Or.inr ⟨rfl, rfl, rfl, px_mem 1675 (by decide +kernel) rfl⟩) rfl (fun _ => ⟨rfl, rfl⟩) ?_
  replace hz := hz.r (a := 73) (j := 60) (x := some 192) (by omega)
  refine wx_aload_n dX12_init_324 rfl ?_
  refine wx_bipush (v := 6) dX12_init_325 (by decide) ?_
  refine wz_newarr (kd := 13) (N := 6) (k' := 194) (cu' := 120) (su' := 1521007) hz dX12_init_327 (by decide) rfl ac_13 (by decide) (by decide) (by decide) (by decide) rfl rfl rfl (by omega) (by omega) ?_
  replace hz := hz.mono (k' := 194) (by omega)
  refine wx_putR dX12_init_329 fl_X12_134 (shk_at (q := (12, 0)) (show 73 < 194 by omega) (by decide)) (Or.inr ⟨rfl, rfl, rfl, px_mem 1676 (by decide +kernel) rfl⟩) rfl (fun _ => ⟨rfl, rfl⟩) ?_
  replace hz := hz.r (a := 73) (j := 61) (x := some 193) (by omega)
  refine wx_aload_n dX12_init_332 rfl ?_
  refine wx_bipush (v := 6) dX12_init_333 (by decide) ?_
  refine wz_newarr (kd := 13) (N := 6) (k' := 195) (cu' := 121) (su' := 1521013) hz dX12_init_335 (by decide) rfl ac_13 (by decide) (by decide) (by decide) (by decide) rfl rfl rfl (by omega) (by omega) ?_
  replace hz := hz.mono (k' := 195) (by omega)
  refine wx_putR dX12_init_337 fl_X12_137 (shk_at (q := (12, 0)) (show 73 < 195 by omega) (by decide)) (Or.inr ⟨rfl, rfl, rfl, px_mem 1677 (by decide +kernel) rfl⟩) rfl (fun _ => ⟨rfl, rfl⟩) ?_
  replace hz := hz.r (a := 73) (j := 62) (x := some 194) (by omega)
  refine wx_aload_n dX12_init_340 rfl ?_
  refine wx_bipush (v := 6) dX12_init_341 (by decide) ?_
  refine wz_newarr (kd := 13) (N := 6) (k' := 196) (cu' := 122) (su' := 1521019) hz dX12_init_343 (by decide) rfl ac_13 (by decide) (by decide) (by decide) (by decide) rfl rfl rfl (by omega) (by omega) ?_
  replace hz := hz.mono (k' := 196) (by omega)
  refine wx_putR dX12_init_345 fl_X12_140 (shk_at (q := (12, 0)) (show 73 < 196 by omega) (by decide)) (Or.inr ⟨rfl, rfl, rfl, px_mem 1678 (by decide +kernel) rfl⟩) rfl (fun _ => ⟨rfl, rfl⟩) ?_
  replace hz := hz.r (a := 73) (j := 63) (x := some 195) (by omega)
  refine wx_aload_n dX12_init_348 rfl ?_
  refine wx_bipush (v := 6) dX12_init_349 (by decide) ?_
  refine wz_newarr (kd := 13) (N := 6) (k' := 197) (cu' := 123) (su' := 1521025) hz dX12_init_351 (by decide) rfl ac_13 (by decide) (by decide) (by decide) (by decide) rfl rfl rfl (by omega) (by omega) ?_
  replace hz := hz.mono (k' := 197) (by omega)
  refine wx_putR dX12_init_353 fl_X12_143 (shk_at (q := (12, 0)) (show 73 < 197 by omega) (by decide)) (Or.inr ⟨rfl, rfl, rfl, px_mem 1679 (by decide +kernel) rfl⟩) rfl (fun _ => ⟨rfl, rfl⟩) ?_
  replace hz := hz.r (a := 73) (j := 64) (x := some 196) (by omega)
  refine wx_aload_n dX12_init_356 rfl ?_
  refine wx_bipush (v := 6) dX12_init_357 (by decide) ?_
  refine wz_newarr (kd := 13) (N := 6) (k' := 198) (cu' := 124) (su' := 1521031) hz dX12_init_359 (by decide) rfl ac_13 (by decide) (by decide) (by decide) (by decide) rfl rfl rfl (by omega) (by omega) ?_
  replace hz := hz.mono (k' := 198) (by omega)
  refine wx_putR dX12_init_361 fl_X12_146 (shk_at (q := (12, 0)) (show 73 < 198 by omega) (by decide)) (Or.inr ⟨rfl, rfl, rfl, px_mem 1680 (by decide +kernel) rfl⟩) rfl (fun _ => ⟨rfl, rfl⟩) ?_
  replace hz := hz.r (a := 73) (j := 65) (x := some 197) (by omega)
  refine wx_aload_n dX12_init_364 rfl ?_
  refine wx_bipush (v := 6) dX12_init_365 (by decide) ?_
  refine wz_newarr (kd := 15) (N := 6) (k' := 199) (cu' := 125) (su' := 1521037) hz dX12_init_367 (by decide) rfl ac_15 (by decide) (by decide) (by decide) (by decide) rfl rfl rfl (by omega) (by omega) ?_
  replace hz := hz.mono (k' := 199) (by omega)
  refine wx_putR dX12_init_369 fl_X12_149 (shk_at (q := (12, 0)) (show 73 < 199 by omega) (by decide)) (Or.inr ⟨rfl, rfl, rfl, px_mem 1681 (by decide +kernel) rfl⟩) rfl (fun _ => ⟨rfl, rfl⟩) ?_
  replace hz := hz.r (a := 73) (j := 66) (x := some 198) (by omega)
  refine wx_aload_n dX12_init_372 rfl ?_
  refine wx_bipush (v := 12) dX12_init_373 (by decide) ?_
  refine wx_bipush (v := 7) dX12_init_375 (by decide) ?_
  refine wz_multi (kd := 18) (ki := 14) (N := 12) (K := 7) (k' := 212) (cu' := 138) (su' := 1521133) hz dX12_init_377 (Or.inl ⟨rfl, rfl⟩) cm_X12_152 (by decide) (by decide) (by decide) (by decide) (by decide) (by decide) (by decide) (by decide) rfl rfl rfl (by omega) (by omega) ?_
  replace hz := hz.rw (N := 12) (n' := 212) (w := fun q => some (199 + 1 + q)) rfl
  refine wx_putR dX12_init_381 fl_X12_154 (shk_at (q := (12, 0)) (show 73 < 212 by omega) (by decide)) (Or.inr ⟨rfl, rfl, rfl, px_mem 1682 (by decide +kernel) rfl⟩) rfl (fun _ => ⟨rfl, rfl⟩) ?_
  replace hz := hz.r (a := 73) (j := 67) (x := some 199) (by omega)
  refine wx_aload_n dX12_init_384 rfl ?_
  refine wx_bipush (v := 6) dX12_init_385 (by decide) ?_
  refine wz_newarr (kd := 13) (N := 6) (k' := 213) (cu' := 139) (su' := 1521139) hz dX12_init_387 (by decide) rfl ac_13 (by decide) (by decide) (by decide) (by decide) rfl rfl rfl (by omega) (by omega) ?_
  replace hz := hz.mono (k' := 213) (by omega)
  refine wx_putR dX12_init_389 fl_X12_157 (shk_at (q := (12, 0)) (show 73 < 213 by omega) (by decide)) (Or.inr ⟨rfl, rfl, rfl, px_mem 1683 (by decide +kernel) rfl⟩) rfl (fun _ => ⟨rfl, rfl⟩) ?_
  replace hz := hz.r (a := 73) (j := 68) (x := some 212) (by omega)
  refine wx_aload_n dX12_init_392 rfl ?_
  refine wx_bipush (v := 6) dX12_init_393 (by decide) ?_
  refine wz_newarr (kd := 14) (N := 6) (k' := 214) (cu' := 140) (su' := 1521145) hz dX12_init_395 (by decide) rfl ac_14 (by decide) (by decide) (by decide) (by decide) rfl rfl rfl (by omega) (by omega) ?_
  replace hz := hz.mono (k' := 214) (by omega)
  refine wx_putR dX12_init_397 fl_X12_160 (shk_at (q := (12, 0)) (show 73 < 214 by omega) (by decide)) (Or.inr ⟨rfl, rfl, rfl, px_mem 1684 (by decide +kernel) rfl⟩) rfl (fun _ => ⟨rfl, rfl⟩) ?_
  replace hz := hz.r (a := 73) (j := 69) (x := some 213) (by omega)
  refine wx_aload_n dX12_init_400 rfl ?_
  refine wx_bipush (v := 6) dX12_init_401 (by decide) ?_
  refine wz_newarr (kd := 14) (N := 6) (k' := 215) (cu' := 141) (su' := 1521151) hz dX12_init_403 (by decide) rfl ac_14 (by decide) (by decide) (by decide) (by decide) rfl rfl rfl (by omega) (by omega) ?_
  replace hz := hz.mono (k' := 215) (by omega)
  refine wx_putR dX12_init_405 fl_X12_164 (shk_at (q := (12, 0)) (show 73 < 215 by omega) (by decide)) (Or.inr ⟨rfl, rfl, rfl, px_mem 1685 (by decide +kernel) rfl⟩) rfl (fun _ => ⟨rfl, rfl⟩) ?_
  replace hz := hz.r (a := 73) (j := 70) (x := some 214) (by omega)
  refine wx_aload_n dX12_init_408 rfl ?_
  refine wx_bipush (v := 12) dX12_init_409 (by decide) ?_
  refine wz_newarr (kd := 13) (N := 12) (k' := 216) (cu' := 142) (su' := 1521163) hz dX12_init_411 (by decide) rfl ac_13 (by decide) (by decide) (by decide) (by decide) rfl rfl rfl (by omega) (by omega) ?_
  replace hz := hz.mono (k' := 216) (by omega)
  refine wx_putR dX12_init_413 fl_X12_167 (shk_at (q := (12, 0)) (show 73 < 216 by omega) (by decide)) (Or.inr ⟨rfl, rfl, rfl, px_mem 1688 (by decide +kernel) rfl⟩) rfl (fun _ => ⟨rfl, rfl⟩) ?_
  replace hz := hz.r (a := 73) (j := 73) (x := some 215) (by omega)
  refine wx_aload_n dX12_init_416 rfl ?_
  refine wx_bipush (v := 12) dX12_init_417 (by decide) ?_
  refine wz_newarr (kd := 13) (N := 12) (k' := 217) (cu' := 143) (su' := 1521175) hz dX12_init_419 (by decide) rfl ac_13 (by decide) (by decide) (by decide) (by decide) rfl rfl rfl (by omega) (by omega) ?_
  replace hz := hz.mono (k' := 217) (by omega)
  refine wx_putR dX12_init_421 fl_X12_170 (shk_at (q := (12, 0)) (show 73 < 217 by omega) (by decide)) (Or.inr ⟨rfl, rfl, rfl, px_mem 1689 (by decide +kernel) rfl⟩) rfl (fun _ => ⟨rfl, rfl⟩) ?_
  replace hz := hz.r (a := 73) (j := 74) (x := some 216) (by omega)
  refine wx_aload_n dX12_init_424 rfl ?_
  refine wx_bipush (v := 12) dX12_init_425 (by decide) ?_
  refine wz_newarr (kd := 13) (N := 12) (k' := 218) (cu' := 144) (su' := 1521187) hz dX12_init_427 (by decide) rfl ac_13 (by decide) (by decide) (by decide) (by decide) rfl rfl rfl (by omega) (by omega) ?_
  replace hz := hz.mono (k' := 218) (by omega)
  refine wx_putR dX12_init_429 fl_X12_173 (shk_at (q := (12, 0)) (show 73 < 218 by omega) (by decide)) (Or.inr ⟨rfl, rfl, rfl, px_mem 1690 (by decide +kernel) rfl⟩) rfl (fun _ => ⟨rfl, rfl⟩) ?_
  replace hz := hz.r (a := 73) (j := 75) (x := some 217) (by omega)
  refine wx_aload_n dX12_init_432 rfl ?_
  refine wx_bipush (v := 12) dX12_init_433 (by decide) ?_
  refine wz_newarr (kd := 13) (N := 12) (k' := 219) (cu' := 145) (su' := 1521199) hz dX12_init_435 (by decide) rfl ac_13 (by decide) (by decide) (by decide) (by decide) rfl rfl rfl (by omega) (by omega) ?_
  replace hz := hz.mono (k' := 219) (by omega)
  refine wx_putR dX12_init_437 fl_X12_176 (shk_at (q := (12, 0)) (show 73 < 219 by omega) (by decide)) (Or.inr ⟨rfl, rfl, rfl, px_mem 1691 (by decide +kernel) rfl⟩) rfl (fun _ => ⟨rfl, rfl⟩) ?_
  replace hz := hz.r (a := 73) (j := 76) (x := some 218) (by omega)
  refine wx_vret dX12_init_440 (by omega) (by omega) ?_
  exact ⟨rfl, rfl, rfl, rfl, rfl, rfl⟩
theorem iZ_73 {M : px_M} {L : px_L} {R : px_R} (hz : Zs 74 M L R) : Zs 219 (iM_73 M) L (iR_73 R) := by
  unfold iR_73 iM_73
  replace hz := hz.mono (k' := 74) (by omega)
  replace hz := hz.mono (k' := 75) (by omega)
  replace hz := hz.r (a := 73) (j := 4) (x := some 74) (by omega)
  replace hz := hz.mono (k' := 76) (by omega)
  replace hz := hz.r (a := 73) (j := 5) (x := some 75) (by omega)
  replace hz := hz.mono (k' := 77) (by omega)
  replace hz := hz.r (a := 73) (j := 6) (x := some 76) (by omega)
  replace hz := hz.mono (k' := 78) (by omega)
  replace hz := hz.r (a := 73) (j := 7) (x := some 77) (by omega)
  replace hz := hz.mono (k' := 79) (by omega)
  replace hz := hz.r (a := 73) (j := 8) (x := some 78) (by omega)
  replace hz := hz.mono (k' := 80) (by omega)
  replace hz := hz.r (a := 73) (j := 13) (x := some 79) (by omega)
  replace hz := hz.mono (k' := 81) (by omega)
  replace hz := hz.r (a := 73) (j := 14) (x := some 80) (by omega)
  replace hz := hz.mono (k' := 82) (by omega)
  replace hz := hz.r (a := 73) (j := 15) (x := some 81) (by omega)
  replace hz := hz.mono (k' := 83) (by omega)
  replace hz := hz.r (a := 73) (j := 16) (x := some 82) (by omega)
  replace hz := hz.mono (k' := 84) (by omega)
  replace hz := hz.r (a := 73) (j := 17) (x := some 83) (by omega)
  replace hz := hz.mono (k' := 85) (by omega)
  replace hz := hz.r (a := 73) (j := 18) (x := some 84) (by omega)
  replace hz := hz.mono (k' := 86) (by omega)
  replace hz := hz.r (a := 73) (j := 19) (x := some 85) (by omega)
  replace hz := hz.mono (k' := 87) (by omega)
  replace hz := hz.r (a := 73) (j := 20) (x := some 86) (by omega)
  replace hz := hz.mono (k' := 88) (by omega)
  replace hz := hz.r (a := 73) (j := 21) (x := some 87) (by omega)
  replace hz := hz.mono (k' := 89) (by omega)
  replace hz := hz.r (a := 73) (j := 22) (x := some 88) (by omega)
  replace hz := hz.mono (k' := 90) (by omega)
  replace hz := hz.r (a := 73) (j := 23) (x := some 89) (by omega)
  replace hz := hz.m (a := 73) (j := 25) (x := 100) (by omega)
  replace hz := hz.m (a := 73) (j := 28) (x := (-1)) (by omega)
  replace hz := hz.mono (k' := 91) (by omega)
  replace hz := hz.r (a := 73) (j := 29) (x := some 90) (by omega)
  replace hz := hz.mono (k' := 92) (by omega)
  replace hz := hz.r (a := 73) (j := 30) (x := some 91) (by omega)
  replace hz := hz.mono (k' := 93) (by omega)
  replace hz := hz.r (a := 73) (j := 31) (x := some 92) (by omega)
  replace hz := hz.rw (N := 41) (n' := 135) (w := fun q => some (93 + 1 + q)) rfl
  replace hz := hz.r (a := 73) (j := 32) (x := some 93) (by omega)
  replace hz := hz.rw (N := 41) (n' := 177) (w := fun q => some (135 + 1 + q)) rfl
  replace hz := hz.r (a := 73) (j := 33) (x := some 135) (by omega)
  replace hz := hz.m (a := 73) (j := 38) (x := (-1)) (by omega)
  replace hz := hz.mono (k' := 178) (by omega)
  replace hz := hz.r (a := 73) (j := 39) (x := some 177) (by omega)
  replace hz := hz.mono (k' := 179) (by omega)
  replace hz := hz.r (a := 73) (j := 40) (x := some 178) (by omega)
  replace hz := hz.mono (k' := 180) (by omega)
  replace hz := hz.r (a := 73) (j := 42) (x := some 179) (by omega)
  replace hz := hz.mono (k' := 181) (by omega)
  replace hz := hz.r (a := 73) (j := 43) (x := some 180) (by omega)
  replace hz := hz.mono (k' := 182) (by omega)
  replace hz := hz.r (a := 73) (j := 44) (x := some 181) (by omega)
  replace hz := hz.mono (k' := 183) (by omega)
  replace hz := hz.r (a := 73) (j := 45) (x := some 182) (by omega)
  replace hz := hz.mono (k' := 184) (by omega)
  replace hz := hz.r (a := 73) (j := 46) (x := some 183) (by omega)
  replace hz := hz.mono (k' := 185) (by omega)
  replace hz := hz.r (a := 73) (j := 47) (x := some 184) (by omega)
  replace hz := hz.mono (k' := 186) (by omega)
  replace hz := hz.r (a := 73) (j := 50) (x := some 185) (by omega)
  replace hz := hz.mono (k' := 187) (by omega)
  replace hz := hz.r (a := 73) (j := 51) (x := some 186) (by omega)
  replace hz := hz.mono (k' := 188) (by omega)
  replace hz := hz.r (a := 73) (j := 52) (x := some 187) (by omega)
  replace hz := hz.mono (k' := 189) (by omega)
  replace hz := hz.r (a := 73) (j := 53) (x := some 188) (by omega)
  replace hz := hz.mono (k' := 190) (by omega)
  replace hz := hz.r (a := 73) (j := 54) (x := some 189) (by omega)
  replace hz := hz.mono (k' := 191) (by omega)
  replace hz := hz.r (a := 73) (j := 55) (x := some 190) (by omega)
  replace hz := hz.mono (k' := 192) (by omega)
  replace hz := hz.r (a := 73) (j := 56) (x := some 191) (by omega)
  replace hz := hz.mono (k' := 193) (by omega)
  replace hz := hz.r (a := 73) (j := 60) (x := some 192) (by omega)
  replace hz := hz.mono (k' := 194) (by omega)
  replace hz := hz.r (a := 73) (j := 61) (x := some 193) (by omega)
  replace hz := hz.mono (k' := 195) (by omega)
  replace hz := hz.r (a := 73) (j := 62) (x := some 194) (by omega)
  replace hz := hz.mono (k' := 196) (by omega)
  replace hz := hz.r (a := 73) (j := 63) (x := some 195) (by omega)
  replace hz := hz.mono (k' := 197) (by omega)
  replace hz := hz.r (a := 73) (j := 64) (x := some 196) (by omega)
  replace hz := hz.mono (k' := 198) (by omega)
  replace hz := hz.r (a := 73) (j := 65) (x := some 197) (by omega)
  replace hz := hz.mono (k' := 199) (by omega)
  replace hz := hz.r (a := 73) (j := 66) (x := some 198) (by omega)
  replace hz := hz.rw (N := 12) (n' := 212) (w := fun q => some (199 + 1 + q)) rfl
  replace hz := hz.r (a := 73) (j := 67) (x := some 199) (by omega)
  replace hz := hz.mono (k' := 213) (by omega)
  replace hz := hz.r (a := 73) (j := 68) (x := some 212) (by omega)
  replace hz := hz.mono (k' := 214) (by omega)
  replace hz := hz.r (a := 73) (j := 69) (x := some 213) (by omega)
  replace hz := hz.mono (k' := 215) (by omega)
  replace hz := hz.r (a := 73) (j := 70) (x := some 214) (by omega)
  replace hz := hz.mono (k' := 216) (by omega)
  replace hz := hz.r (a := 73) (j := 73) (x := some 215) (by omega)
  replace hz := hz.mono (k' := 217) (by omega)
  replace hz := hz.r (a := 73) (j := 74) (x := some 216) (by omega)
  replace hz := hz.mono (k' := 218) (by omega)
  replace hz := hz.r (a := 73) (j := 75) (x := some 217) (by omega)
  replace hz := hz.mono (k' := 219) (by omega)
  replace hz := hz.r (a := 73) (j := 76) (x := some 218) (by omega)
  exact hz
