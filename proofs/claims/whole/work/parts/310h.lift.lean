/-! the reference -/
section LIFT
variable {d mc ms : Nat} {X : Nat × (Nat → Int32)} {Post : px_Post} {sh : px_Sh} {n cu su : Nat}
noncomputable def f_X12_slack_25 (sh : px_Sh) (M : px_M) (L : px_L) (R : px_R) (x1 : Int32) (z0 : Int32) : Option (Int32 × px_M × px_L) :=
  bd1 (f_X12_bad M z0 1) fun e_26 =>
  if e_26.1 = 0 then
    bd1 (f_X12_isCorner sh e_26.2 L R x1 1) fun e_37 =>
    ok (zb e_37.1) <|
    some (e_37.1, e_37.2.1, e_37.2.2)
  else
    some (0, e_26.2, L)
theorem s_X12_slack_25 {x1 : Int32} {z0 : Int32} {M : px_M} {L : px_L} {R : px_R} {e : (Int32 × px_M × px_L)} (hS : SR sh R) (hd : 4 ≤ d) (hcu : cu ≤ mc) (hsu : su ≤ ms) (h : f_X12_slack_25 sh M L R x1 z0 = some e) (g : Post (some (.int (e.1))) sh (e.2.1) (e.2.2) R n) : WX RX12 cX12_slack 2 (some .boolean) ("slack", []) d mc ms X (px_QF Post mc ms) 25 [(0, .ref 73), (1, .int x1)] [.int z0, .ref 73] sh M L R n cu su := by
  unfold f_X12_slack_25 at h
  refine wx_iconst (v := 1) dX12_slack_25 (by decide) ?_
  obtain ⟨e_26, k_26, h⟩ := bd1_some h
  refine wx_cVi dX12_slack_26 ml_X12_207 my_X12_bad iv_X12_bad (sc_73 hS) (by decide) (s_X12_bad (d := d - 1) hS (by omega) k_26) rfl (by omega) (by exact Nat.le_of_ble_eq_true rfl) hcu hsu ?_
  refine wx_if_eq (tgt := 34) dX12_slack_29 (by decide) (fun c_29 => ?_) (fun c_29 => ?_)
  · replace h := it_t h c_29
    refine wx_aload_n dX12_slack_34 rfl ?_
    refine wx_iload_n dX12_slack_35 rfl ?_
    refine wx_iconst (v := 1) dX12_slack_36 (by decide) ?_
    obtain ⟨e_37, k_37, h⟩ := bd1_some h
    refine wx_cVi dX12_slack_37 ml_X12_483 my_X12_isCorner iv_X12_isCorner (sc_73 hS) (by decide) (s_X12_isCorner (d := d - 1) hS (by omega) k_37) rfl (by omega) (by exact Nat.le_of_ble_eq_true rfl) hcu hsu ?_
    obtain ⟨w_40, h⟩ := ok_some h
    refine wx_zret dX12_slack_40 (zb_n w_40) hcu hsu ?_
    obtain rfl := Option.some.inj h
    exact g
  · replace h := it_f h c_29
    refine wx_iconst (v := 0) dX12_slack_32 (by decide) ?_
    refine wx_zret dX12_slack_33 rfl hcu hsu ?_
    obtain rfl := Option.some.inj h
    exact g
noncomputable def f_X12_slack (sh : px_Sh) (M : px_M) (L : px_L) (R : px_R) (p1 : Int32) : Option (Int32 × px_M × px_L) :=
  nm (px_u M 73 0 0) fun M_2 =>
  bd1 (f_X12_in p1 0 ((M_2 73 58) - 1)) fun e_14 =>
  if e_14 = 0 then
    f_X12_slack_25 sh M_2 L R p1 1
  else
    f_X12_slack_25 sh M_2 L R p1 0
theorem s_X12_slack {d : Nat} {X : Nat × (Nat → Int32)} {sh : px_Sh} {M : px_M} {L : px_L} {R : px_R} {n : Nat} {p1 : Int32} {e : Int32 × px_M × px_L} (hS : SR sh R) (hd : 4 ≤ d) (h : f_X12_slack sh M L R p1 = some e) : MX yX12_slack cX12_slack 2 (some .boolean) d 0 0 X [.ref 73, .int p1] sh M L R n (px_pu (some (.int e.1)) sh e.2.1 e.2.2 R n) := by
  refine MX.of (by decide +kernel) (by exact Nat.le_of_ble_eq_true rfl) ?_
  have hcu : 0 ≤ 0 := Nat.zero_le _
  have hsu : 0 ≤ 0 := Nat.zero_le _
  have g : px_pu (some (.int e.1)) sh e.2.1 e.2.2 R n (some (.int e.1)) sh e.2.1 e.2.2 R n := ⟨rfl, rfl, rfl, rfl, rfl, rfl⟩
  unfold f_X12_slack at h
  refine wx_aload_n dX12_slack_0 rfl ?_
  refine wx_iconst (v := 0) dX12_slack_1 (by decide) ?_
  refine wx_putI dX12_slack_2 fl_X12_179 (sc_73 hS) (Or.inl rfl) rfl ⟨rfl, rfl⟩ ?_
  refine wx_namM (fun M_2 q_2 => ?_)
  replace h := nm_at h q_2
  refine wx_aload_n dX12_slack_5 rfl ?_
  refine wx_iload_n dX12_slack_6 rfl ?_
  refine wx_iconst (v := 0) dX12_slack_7 (by decide) ?_
  refine wx_aload_n dX12_slack_8 rfl ?_
  refine wx_getI dX12_slack_9 fl_X12_452 (sc_73 hS) rfl ?_
  refine wx_iconst (v := 1) dX12_slack_12 (by decide) ?_
  refine wx_isub dX12_slack_13 ?_
  obtain ⟨e_14, k_14, h⟩ := bd1_some h
  refine wx_cSi dX12_slack_14 ml_X12_203 my_X12_in sv_X12_in (s_X12_in (d := d - 1) hS (by omega) k_14) rfl (by omega) (by exact Nat.le_of_ble_eq_true rfl) hcu hsu ?_
  refine wx_if_ne (tgt := 24) dX12_slack_17 (by decide) (fun c_17 => ?_) (fun c_17 => ?_)
  · replace h := it_f h c_17
    refine wx_iconst (v := 0) dX12_slack_24 (by decide) ?_
    exact wx_sub (s_X12_slack_25 hS hd hcu hsu h g) (px_s rfl (px_s rfl px_0))
  · replace h := it_t h c_17
    refine wx_iconst (v := 1) dX12_slack_20 (by decide) ?_
    refine wx_goto (tgt := 25) dX12_slack_21 (by decide) ?_
    exact wx_sub (s_X12_slack_25 hS hd hcu hsu h g) (px_s rfl (px_s rfl px_0))
noncomputable def f_X12_taut_85 (sh : px_Sh) (M : px_M) (L : px_L) (R : px_R) (x1 : Int32) (x2 : Int32) : Option ((Int32 × px_M × px_L) ⊕ ((px_M × px_L) ⊕ (px_M × px_L))) :=
  some (.inl ((x2 + 1), M, L))
theorem s_X12_taut_85 {x1 : Int32} {x2 : Int32} {M : px_M} {L : px_L} {R : px_R} {e : ((Int32 × px_M × px_L) ⊕ ((px_M × px_L) ⊕ (px_M × px_L)))} (hS : SR sh R) (hd : 4 ≤ d) (hcu : cu ≤ mc) (hsu : su ≤ ms) (h : f_X12_taut_85 sh M L R x1 x2 = some e) (g : (sE (fun a => WX RX12 cX12_taut 3 (some .boolean) ("taut", []) d mc ms X (px_QF Post mc ms) 56 [(0, .ref 73), (1, .int x1), (2, .int a.1)] [] sh (a.2.1) (a.2.2) R n cu su) (sE (fun t => WX RX12 cX12_taut 3 (some .boolean) ("taut", []) d mc ms X (px_QF Post mc ms) 83 [] [] sh (t.1) (t.2) R n cu su) (fun t => WX RX12 cX12_taut 3 (some .boolean) ("taut", []) d mc ms X (px_QF Post mc ms) 91 [] [] sh (t.1) (t.2) R n cu su))) e) : WX RX12 cX12_taut 3 (some .boolean) ("taut", []) d mc ms X (px_QF Post mc ms) 85 [(0, .ref 73), (1, .int x1), (2, .int x2)] [] sh M L R n cu su := by
  unfold f_X12_taut_85 at h
  refine wx_iinc (lv' := [(2, _), (0, _), (1, _)]) dX12_taut_85 rfl (i_1 _) (by decide) rfl ?_
  refine wx_goto (tgt := 56) dX12_taut_88 (by decide) ?_
  obtain rfl := Option.some.inj h
  replace g := sE_l g
  exact wx_sub g (px_s rfl (px_s rfl (px_s rfl px_0)))
noncomputable def f_X12_taut_56 (sh : px_Sh) (M : px_M) (L : px_L) (R : px_R) (x1 : Int32) (x2 : Int32) : Option ((Int32 × px_M × px_L) ⊕ ((px_M × px_L) ⊕ (px_M × px_L))) :=
  if (1 <<< ((M 73 58) &&& 31)) ≤ x2 then
    some (.inr (.inr (M, L)))
  else
    if ((x2 >>> (x1 &&& 31)) &&& 1) = 0 then
      bd1 (f_X12_solves sh M L R x2 x1) fun e_77 =>
      if e_77.1 = 0 then
        f_X12_taut_85 sh e_77.2.1 e_77.2.2 R x1 x2
      else
        some (.inr (.inl (e_77.2.1, e_77.2.2)))
    else
      f_X12_taut_85 sh M L R x1 x2
theorem s_X12_taut_56b {x1 : Int32} {x2 : Int32} {M : px_M} {L : px_L} {R : px_R} {e : ((Int32 × px_M × px_L) ⊕ ((px_M × px_L) ⊕ (px_M × px_L)))} (hS : SR sh R) (hd : 4 ≤ d) (hcu : cu ≤ mc) (hsu : su ≤ ms) (h : f_X12_taut_56 sh M L R x1 x2 = some e) (g : (sE (fun a => WX RX12 cX12_taut 3 (some .boolean) ("taut", []) d mc ms X (px_QF Post mc ms) 56 [(0, .ref 73), (1, .int x1), (2, .int a.1)] [] sh (a.2.1) (a.2.2) R n cu su) (sE (fun t => WX RX12 cX12_taut 3 (some .boolean) ("taut", []) d mc ms X (px_QF Post mc ms) 83 [] [] sh (t.1) (t.2) R n cu su) (fun t => WX RX12 cX12_taut 3 (some .boolean) ("taut", []) d mc ms X (px_QF Post mc ms) 91 [] [] sh (t.1) (t.2) R n cu su))) e) : WX RX12 cX12_taut 3 (some .boolean) ("taut", []) d mc ms X (px_QF Post mc ms) 56 [(0, .ref 73), (1, .int x1), (2, .int x2)] [] sh M L R n cu su := by
  unfold f_X12_taut_56 at h
  refine wx_iload_n dX12_taut_56 rfl ?_
  refine wx_iconst (v := 1) dX12_taut_57 (by decide) ?_
  refine wx_aload_n dX12_taut_58 rfl ?_
  refine wx_getI dX12_taut_59 fl_X12_452 (sc_73 hS) rfl ?_
  refine wx_ishl dX12_taut_62 ?_
  refine wx_icmp_ge (tgt := 91) dX12_taut_63 (by decide) (fun c_63 => ?_) (fun c_63 => ?_)
  · replace h := it_t h c_63
    obtain rfl := Option.some.inj h
    replace g := sE_r (sE_r g)
    exact wx_sub g px_0
  · replace h := it_f h c_63
    refine wx_iload_n dX12_taut_66 rfl ?_
    refine wx_iload_n dX12_taut_67 rfl ?_
    refine wx_ishr dX12_taut_68 ?_
    refine wx_iconst (v := 1) dX12_taut_69 (by decide) ?_
    refine wx_iand dX12_taut_70 ?_
    refine wx_if_ne (tgt := 85) dX12_taut_71 (by decide) (fun c_71 => ?_) (fun c_71 => ?_)
    · replace h := it_f h c_71
      exact wx_sub (s_X12_taut_85 hS hd hcu hsu h g) (px_s rfl (px_s rfl (px_s rfl px_0)))
    · replace h := it_t h c_71
      refine wx_aload_n dX12_taut_74 rfl ?_
      refine wx_iload_n dX12_taut_75 rfl ?_
      refine wx_iload_n dX12_taut_76 rfl ?_
      obtain ⟨e_77, k_77, h⟩ := bd1_some h
      refine wx_cVi dX12_taut_77 ml_X12_470 my_X12_solves iv_X12_solves (sc_73 hS) (by decide) (s_X12_solves (d := d - 1) hS (by omega) k_77) rfl (by omega) (by exact Nat.le_of_ble_eq_true rfl) hcu hsu ?_
      refine wx_if_eq (tgt := 85) dX12_taut_80 (by decide) (fun c_80 => ?_) (fun c_80 => ?_)
      · replace h := it_t h c_80
        exact wx_sub (s_X12_taut_85 hS hd hcu hsu h g) (px_s rfl (px_s rfl (px_s rfl px_0)))
      · replace h := it_f h c_80
        obtain rfl := Option.some.inj h
        replace g := sE_l (sE_r g)
        exact wx_sub g px_0
theorem s_X12_taut_56 {x1 : Int32} {x2 : Int32} {M : px_M} {L : px_L} {R : px_R} {e : ((px_M × px_L) ⊕ (px_M × px_L))} (hS : SR sh R) (hd : 4 ≤ d) (hcu : cu ≤ mc) (hsu : su ≤ ms) (h : lpf (fun a : Int32 × px_M × px_L => f_X12_taut_56 sh a.2.1 a.2.2 R x1 a.1) (x2, M, L) = some e) (g : (sE (fun t => WX RX12 cX12_taut 3 (some .boolean) ("taut", []) d mc ms X (px_QF Post mc ms) 83 [] [] sh (t.1) (t.2) R n cu su) (fun t => WX RX12 cX12_taut 3 (some .boolean) ("taut", []) d mc ms X (px_QF Post mc ms) 91 [] [] sh (t.1) (t.2) R n cu su)) e) : WX RX12 cX12_taut 3 (some .boolean) ("taut", []) d mc ms X (px_QF Post mc ms) 56 [(0, .ref 73), (1, .int x1), (2, .int x2)] [] sh M L R n cu su := by
  have key := lpf_wp (P := (fun a => WX RX12 cX12_taut 3 (some .boolean) ("taut", []) d mc ms X (px_QF Post mc ms) 56 [(0, .ref 73), (1, .int x1), (2, .int a.1)] [] sh (a.2.1) (a.2.2) R n cu su)) (G := (sE (fun t => WX RX12 cX12_taut 3 (some .boolean) ("taut", []) d mc ms X (px_QF Post mc ms) 83 [] [] sh (t.1) (t.2) R n cu su) (fun t => WX RX12 cX12_taut 3 (some .boolean) ("taut", []) d mc ms X (px_QF Post mc ms) 91 [] [] sh (t.1) (t.2) R n cu su))) (fun a r h g => s_X12_taut_56b (x1 := x1) (x2 := a.1) (M := a.2.1) (L := a.2.2) (R := R) hS hd hcu hsu h g) (a := (x2, M, L)) h g
  exact key
noncomputable def f_X12_taut_25 (sh : px_Sh) (M : px_M) (L : px_L) (R : px_R) (x1 : Int32) (z0 : Int32) : Option (Int32 × px_M × px_L) :=
  bd1 (f_X12_bad M z0 1) fun e_26 =>
  if e_26.1 = 0 then
    bd1 (f_X12_isCorner sh e_26.2 L R x1 0) fun e_37 =>
    if e_37.1 = 0 then
      bd1 (f_X12_findEase sh e_37.2.1 e_37.2.2 R) fun e_46 =>
      if e_46.1 = 0 then
        some (0, e_46.2.1, e_46.2.2)
      else
        bdS (lpf (fun a : Int32 × px_M × px_L => f_X12_taut_56 sh a.2.1 a.2.2 R x1 a.1) (0, e_46.2.1, e_46.2.2)) (fun t_56_0 =>
        some (1, t_56_0.1, t_56_0.2)) (fun u_56_0 =>
        some (0, u_56_0.1, u_56_0.2))
    else
      some (1, e_37.2.1, e_37.2.2)
  else
    some (0, e_26.2, L)
theorem s_X12_taut_25 {x1 : Int32} {z0 : Int32} {M : px_M} {L : px_L} {R : px_R} {e : (Int32 × px_M × px_L)} (hS : SR sh R) (hd : 4 ≤ d) (hcu : cu ≤ mc) (hsu : su ≤ ms) (h : f_X12_taut_25 sh M L R x1 z0 = some e) (g : Post (some (.int (e.1))) sh (e.2.1) (e.2.2) R n) : WX RX12 cX12_taut 3 (some .boolean) ("taut", []) d mc ms X (px_QF Post mc ms) 25 [(0, .ref 73), (1, .int x1)] [.int z0, .ref 73] sh M L R n cu su := by
  unfold f_X12_taut_25 at h
  refine wx_iconst (v := 1) dX12_taut_25 (by decide) ?_
  obtain ⟨e_26, k_26, h⟩ := bd1_some h
  refine wx_cVi dX12_taut_26 ml_X12_207 my_X12_bad iv_X12_bad (sc_73 hS) (by decide) (s_X12_bad (d := d - 1) hS (by omega) k_26) rfl (by omega) (by exact Nat.le_of_ble_eq_true rfl) hcu hsu ?_
  refine wx_if_eq (tgt := 34) dX12_taut_29 (by decide) (fun c_29 => ?_) (fun c_29 => ?_)
  · replace h := it_t h c_29
    refine wx_aload_n dX12_taut_34 rfl ?_
    refine wx_iload_n dX12_taut_35 rfl ?_
    refine wx_iconst (v := 0) dX12_taut_36 (by decide) ?_
    obtain ⟨e_37, k_37, h⟩ := bd1_some h
    refine wx_cVi dX12_taut_37 ml_X12_483 my_X12_isCorner iv_X12_isCorner (sc_73 hS) (by decide) (s_X12_isCorner (d := d - 1) hS (by omega) k_37) rfl (by omega) (by exact Nat.le_of_ble_eq_true rfl) hcu hsu ?_
    refine wx_if_eq (tgt := 45) dX12_taut_40 (by decide) (fun c_40 => ?_) (fun c_40 => ?_)
    · replace h := it_t h c_40
      refine wx_aload_n dX12_taut_45 rfl ?_
      obtain ⟨e_46, k_46, h⟩ := bd1_some h
      refine wx_cVi dX12_taut_46 ml_X12_480 my_X12_findEase iv_X12_findEase (sc_73 hS) (by decide) (s_X12_findEase (d := d - 1) hS (by omega) k_46) rfl (by omega) (by exact Nat.le_of_ble_eq_true rfl) hcu hsu ?_
      refine wx_if_ne (tgt := 54) dX12_taut_49 (by decide) (fun c_49 => ?_) (fun c_49 => ?_)
      · replace h := it_f h c_49
        refine wx_iconst (v := 0) dX12_taut_54 (by decide) ?_
        refine wx_istore_n (lv' := [(2, _), (0, _), (1, _)]) dX12_taut_55 (by decide) rfl ?_
        rcases bdS_some h with ⟨t_56_0, k_56_0, h⟩ | ⟨u_56_0, k_56_0, h⟩
        · refine wx_sub (s_X12_taut_56 hS hd hcu hsu k_56_0 (sE_li ?_)) (px_s rfl (px_s rfl (px_s rfl px_0)))
          refine wx_iconst (v := 1) dX12_taut_83 (by decide) ?_
          refine wx_zret dX12_taut_84 rfl hcu hsu ?_
          obtain rfl := Option.some.inj h
          exact g
        · refine wx_sub (s_X12_taut_56 hS hd hcu hsu k_56_0 (sE_ri ?_)) (px_s rfl (px_s rfl (px_s rfl px_0)))
          refine wx_iconst (v := 0) dX12_taut_91 (by decide) ?_
          refine wx_zret dX12_taut_92 rfl hcu hsu ?_
          obtain rfl := Option.some.inj h
          exact g
      · replace h := it_t h c_49
        refine wx_iconst (v := 0) dX12_taut_52 (by decide) ?_
        refine wx_zret dX12_taut_53 rfl hcu hsu ?_
        obtain rfl := Option.some.inj h
        exact g
    · replace h := it_f h c_40
      refine wx_iconst (v := 1) dX12_taut_43 (by decide) ?_
      refine wx_zret dX12_taut_44 rfl hcu hsu ?_
      obtain rfl := Option.some.inj h
      exact g
  · replace h := it_f h c_29
    refine wx_iconst (v := 0) dX12_taut_32 (by decide) ?_
    refine wx_zret dX12_taut_33 rfl hcu hsu ?_
    obtain rfl := Option.some.inj h
    exact g
noncomputable def f_X12_taut (sh : px_Sh) (M : px_M) (L : px_L) (R : px_R) (p1 : Int32) : Option (Int32 × px_M × px_L) :=
  nm (px_u M 73 0 0) fun M_2 =>
  bd1 (f_X12_in p1 0 ((M_2 73 58) - 1)) fun e_14 =>
  if e_14 = 0 then
    f_X12_taut_25 sh M_2 L R p1 1
  else
    f_X12_taut_25 sh M_2 L R p1 0
theorem s_X12_taut {d : Nat} {X : Nat × (Nat → Int32)} {sh : px_Sh} {M : px_M} {L : px_L} {R : px_R} {n : Nat} {p1 : Int32} {e : Int32 × px_M × px_L} (hS : SR sh R) (hd : 4 ≤ d) (h : f_X12_taut sh M L R p1 = some e) : MX yX12_taut cX12_taut 3 (some .boolean) d 0 0 X [.ref 73, .int p1] sh M L R n (px_pu (some (.int e.1)) sh e.2.1 e.2.2 R n) := by
  refine MX.of (by decide +kernel) (by exact Nat.le_of_ble_eq_true rfl) ?_
  have hcu : 0 ≤ 0 := Nat.zero_le _
  have hsu : 0 ≤ 0 := Nat.zero_le _
  have g : px_pu (some (.int e.1)) sh e.2.1 e.2.2 R n (some (.int e.1)) sh e.2.1 e.2.2 R n := ⟨rfl, rfl, rfl, rfl, rfl, rfl⟩
  unfold f_X12_taut at h
  refine wx_aload_n dX12_taut_0 rfl ?_
  refine wx_iconst (v := 0) dX12_taut_1 (by decide) ?_
  refine wx_putI dX12_taut_2 fl_X12_179 (sc_73 hS) (Or.inl rfl) rfl ⟨rfl, rfl⟩ ?_
  refine wx_namM (fun M_2 q_2 => ?_)
  replace h := nm_at h q_2
  refine wx_aload_n dX12_taut_5 rfl ?_
  refine wx_iload_n dX12_taut_6 rfl ?_
  refine wx_iconst (v := 0) dX12_taut_7 (by decide) ?_
  refine wx_aload_n dX12_taut_8 rfl ?_
  refine wx_getI dX12_taut_9 fl_X12_452 (sc_73 hS) rfl ?_
  refine wx_iconst (v := 1) dX12_taut_12 (by decide) ?_
  refine wx_isub dX12_taut_13 ?_
  obtain ⟨e_14, k_14, h⟩ := bd1_some h
  refine wx_cSi dX12_taut_14 ml_X12_203 my_X12_in sv_X12_in (s_X12_in (d := d - 1) hS (by omega) k_14) rfl (by omega) (by exact Nat.le_of_ble_eq_true rfl) hcu hsu ?_
  refine wx_if_ne (tgt := 24) dX12_taut_17 (by decide) (fun c_17 => ?_) (fun c_17 => ?_)
  · replace h := it_f h c_17
    refine wx_iconst (v := 0) dX12_taut_24 (by decide) ?_
    exact wx_sub (s_X12_taut_25 hS hd hcu hsu h g) (px_s rfl (px_s rfl px_0))
  · replace h := it_t h c_17
    refine wx_iconst (v := 1) dX12_taut_20 (by decide) ?_
    refine wx_goto (tgt := 25) dX12_taut_21 (by decide) ?_
    exact wx_sub (s_X12_taut_25 hS hd hcu hsu h g) (px_s rfl (px_s rfl px_0))
noncomputable def f_X12_ease_55 (sh : px_Sh) (M : px_M) (L : px_L) (R : px_R) (z0 : Int64) : Option (Int64 × px_M × px_L) :=
  some (z0, M, L)
theorem s_X12_ease_55 {z0 : Int64} {M : px_M} {L : px_L} {R : px_R} {e : (Int64 × px_M × px_L)} (hS : SR sh R) (hd : 4 ≤ d) (hcu : cu ≤ mc) (hsu : su ≤ ms) (h : f_X12_ease_55 sh M L R z0 = some e) (g : Post (some (.long (e.1))) sh (e.2.1) (e.2.2) R n) : WX RX12 cX12_ease 2 (some .long) ("ease", []) d mc ms X (px_QF Post mc ms) 55 [] [.long z0] sh M L R n cu su := by
  unfold f_X12_ease_55 at h
  refine wx_lret dX12_ease_55 hcu hsu ?_
  obtain rfl := Option.some.inj h
  exact g
noncomputable def f_X12_ease_20 (sh : px_Sh) (M : px_M) (L : px_L) (R : px_R) (x1 : Int32) (z0 : Int32) : Option (Int64 × px_M × px_L) :=
  bd1 (f_X12_bad M z0 1) fun e_21 =>
  if e_21.1 = 0 then
    bd1 (f_X12_findEase sh e_21.2 L R) fun e_30 =>
    if e_30.1 = 0 then
      some ((-1), e_30.2.1, e_30.2.2)
    else
      if x1 = 0 then
        f_X12_ease_55 sh e_30.2.1 e_30.2.2 R (e_30.2.2 73 71)
      else
        f_X12_ease_55 sh e_30.2.1 e_30.2.2 R (e_30.2.2 73 72)
  else
    some (0, e_21.2, L)
theorem s_X12_ease_20 {x1 : Int32} {z0 : Int32} {M : px_M} {L : px_L} {R : px_R} {e : (Int64 × px_M × px_L)} (hS : SR sh R) (hd : 4 ≤ d) (hcu : cu ≤ mc) (hsu : su ≤ ms) (h : f_X12_ease_20 sh M L R x1 z0 = some e) (g : Post (some (.long (e.1))) sh (e.2.1) (e.2.2) R n) : WX RX12 cX12_ease 2 (some .long) ("ease", []) d mc ms X (px_QF Post mc ms) 20 [(0, .ref 73), (1, .int x1)] [.int z0, .ref 73] sh M L R n cu su := by
  unfold f_X12_ease_20 at h
  refine wx_iconst (v := 1) dX12_ease_20 (by decide) ?_
  obtain ⟨e_21, k_21, h⟩ := bd1_some h
  refine wx_cVi dX12_ease_21 ml_X12_207 my_X12_bad iv_X12_bad (sc_73 hS) (by decide) (s_X12_bad (d := d - 1) hS (by omega) k_21) rfl (by omega) (by exact Nat.le_of_ble_eq_true rfl) hcu hsu ?_
  refine wx_if_eq (tgt := 29) dX12_ease_24 (by decide) (fun c_24 => ?_) (fun c_24 => ?_)
  · replace h := it_t h c_24
    refine wx_aload_n dX12_ease_29 rfl ?_
    obtain ⟨e_30, k_30, h⟩ := bd1_some h
    refine wx_cVi dX12_ease_30 ml_X12_480 my_X12_findEase iv_X12_findEase (sc_73 hS) (by decide) (s_X12_findEase (d := d - 1) hS (by omega) k_30) rfl (by omega) (by exact Nat.le_of_ble_eq_true rfl) hcu hsu ?_
    refine wx_if_ne (tgt := 40) dX12_ease_33 (by decide) (fun c_33 => ?_) (fun c_33 => ?_)
    · replace h := it_f h c_33
      refine wx_iload_n dX12_ease_40 rfl ?_
      refine wx_if_ne (tgt := 51) dX12_ease_41 (by decide) (fun c_41 => ?_) (fun c_41 => ?_)
      · replace h := it_f h c_41
        refine wx_aload_n dX12_ease_51 rfl ?_
        refine wx_getL dX12_ease_52 fl_X12_473 (sc_73 hS) rfl ?_
        exact wx_sub (s_X12_ease_55 hS hd hcu hsu h g) px_0
      · replace h := it_t h c_41
        refine wx_aload_n dX12_ease_44 rfl ?_
        refine wx_getL dX12_ease_45 fl_X12_477 (sc_73 hS) rfl ?_
        refine wx_goto (tgt := 55) dX12_ease_48 (by decide) ?_
        exact wx_sub (s_X12_ease_55 hS hd hcu hsu h g) px_0
    · replace h := it_t h c_33
      refine wx_ldc2 dX12_ease_36 kl_X12_487 ?_
      refine wx_lret dX12_ease_39 hcu hsu ?_
      obtain rfl := Option.some.inj h
      exact g
  · replace h := it_f h c_24
    refine wx_lconst (v := 0) dX12_ease_27 (by decide) ?_
    refine wx_lret dX12_ease_28 hcu hsu ?_
    obtain rfl := Option.some.inj h
    exact g
noncomputable def f_X12_ease (sh : px_Sh) (M : px_M) (L : px_L) (R : px_R) (p1 : Int32) : Option (Int64 × px_M × px_L) :=
  nm (px_u M 73 0 0) fun M_2 =>
  bd1 (f_X12_in p1 0 1) fun e_9 =>
  if e_9 = 0 then
    f_X12_ease_20 sh M_2 L R p1 1
  else
    f_X12_ease_20 sh M_2 L R p1 0
theorem s_X12_ease {d : Nat} {X : Nat × (Nat → Int32)} {sh : px_Sh} {M : px_M} {L : px_L} {R : px_R} {n : Nat} {p1 : Int32} {e : Int64 × px_M × px_L} (hS : SR sh R) (hd : 4 ≤ d) (h : f_X12_ease sh M L R p1 = some e) : MX yX12_ease cX12_ease 2 (some .long) d 0 0 X [.ref 73, .int p1] sh M L R n (px_pu (some (.long e.1)) sh e.2.1 e.2.2 R n) := by
  refine MX.of (by decide +kernel) (by exact Nat.le_of_ble_eq_true rfl) ?_
  have hcu : 0 ≤ 0 := Nat.zero_le _
  have hsu : 0 ≤ 0 := Nat.zero_le _
  have g : px_pu (some (.long e.1)) sh e.2.1 e.2.2 R n (some (.long e.1)) sh e.2.1 e.2.2 R n := ⟨rfl, rfl, rfl, rfl, rfl, rfl⟩
  unfold f_X12_ease at h
  refine wx_aload_n dX12_ease_0 rfl ?_
  refine wx_iconst (v := 0) dX12_ease_1 (by decide) ?_
  refine wx_putI dX12_ease_2 fl_X12_179 (sc_73 hS) (Or.inl rfl) rfl ⟨rfl, rfl⟩ ?_
  refine wx_namM (fun M_2 q_2 => ?_)
  replace h := nm_at h q_2
  refine wx_aload_n dX12_ease_5 rfl ?_
  refine wx_iload_n dX12_ease_6 rfl ?_
  refine wx_iconst (v := 0) dX12_ease_7 (by decide) ?_
  refine wx_iconst (v := 1) dX12_ease_8 (by decide) ?_
  obtain ⟨e_9, k_9, h⟩ := bd1_some h
  refine wx_cSi dX12_ease_9 ml_X12_203 my_X12_in sv_X12_in (s_X12_in (d := d - 1) hS (by omega) k_9) rfl (by omega) (by exact Nat.le_of_ble_eq_true rfl) hcu hsu ?_
  refine wx_if_ne (tgt := 19) dX12_ease_12 (by decide) (fun c_12 => ?_) (fun c_12 => ?_)
  · replace h := it_f h c_12
    refine wx_iconst (v := 0) dX12_ease_19 (by decide) ?_
    exact wx_sub (s_X12_ease_20 hS hd hcu hsu h g) (px_s rfl (px_s rfl px_0))
  · replace h := it_t h c_12
    refine wx_iconst (v := 1) dX12_ease_15 (by decide) ?_
    refine wx_goto (tgt := 20) dX12_ease_16 (by decide) ?_
    exact wx_sub (s_X12_ease_20 hS hd hcu hsu h g) (px_s rfl (px_s rfl px_0))
noncomputable def f_X12_offer_55 (M : px_M) (x1 : Int32) (x2 : Int32) (x3 : Int32) (x4 : Int32) (z0 : Int32) : Option (Int32 × px_M) :=
  bd1 (f_X12_bad M z0 1) fun e_56 =>
  if e_56.1 = 0 then
    if (e_56.2 73 59) = 12 then
      some ((-1), e_56.2)
    else
      ok (ix (e_56.2 73 59) 12) <|
      nm (px_u e_56.2 215 (e_56.2 73 59).toNatClampNeg x1) fun M_84 =>
      ok (ix (M_84 73 59) 12) <|
      nm (px_u M_84 216 (M_84 73 59).toNatClampNeg x2) fun M_94 =>
      ok (ix (M_94 73 59) 12) <|
      nm (px_u M_94 217 (M_94 73 59).toNatClampNeg x3) fun M_104 =>
      ok (ix (M_104 73 59) 12) <|
      nm (px_u M_104 218 (M_104 73 59).toNatClampNeg x4) fun M_115 =>
      nm ((M_115 73 59) + 1) fun v_123 =>
      nm (px_u M_115 73 59 v_123) fun M_123 =>
      some (((M_123 73 59) - 1), M_123)
  else
    some (0, e_56.2)
theorem s_X12_offer_55 {x1 : Int32} {x2 : Int32} {x3 : Int32} {x4 : Int32} {z0 : Int32} {M : px_M} {L : px_L} {R : px_R} {e : (Int32 × px_M)} (hS : SR sh R) (hd : 1 ≤ d) (hcu : cu ≤ mc) (hsu : su ≤ ms) (h : f_X12_offer_55 M x1 x2 x3 x4 z0 = some e) (g : Post (some (.int (e.1))) sh (e.2) L R n) : WX RX12 cX12_offer 5 (some .int) ("offer", []) d mc ms X (px_QF Post mc ms) 55 [(0, .ref 73), (1, .int x1), (2, .int x2), (3, .int x3), (4, .int x4)] [.int z0, .ref 73] sh M L R n cu su := by
  unfold f_X12_offer_55 at h
  refine wx_iconst (v := 1) dX12_offer_55 (by decide) ?_
  obtain ⟨e_56, k_56, h⟩ := bd1_some h
  refine wx_cVi dX12_offer_56 ml_X12_207 my_X12_bad iv_X12_bad (sc_73 hS) (by decide) (s_X12_bad (d := d - 1) hS (by omega) k_56) rfl (by omega) (by exact Nat.le_of_ble_eq_true rfl) hcu hsu ?_
  refine wx_if_eq (tgt := 64) dX12_offer_59 (by decide) (fun c_59 => ?_) (fun c_59 => ?_)
  · replace h := it_t h c_59
    refine wx_aload_n dX12_offer_64 rfl ?_
    refine wx_getI dX12_offer_65 fl_X12_489 (sc_73 hS) rfl ?_
    refine wx_bipush (v := 12) dX12_offer_68 (by decide) ?_
    refine wx_icmp_ne (tgt := 75) dX12_offer_70 (by decide) (fun c_70 => ?_) (fun c_70 => ?_)
    · replace h := it_f h c_70
      refine wx_aload_n dX12_offer_75 rfl ?_
      refine wx_getR dX12_offer_76 fl_X12_167 (sc_73 hS) rfl (rr_73_73 hS) ?_
      refine wx_aload_n dX12_offer_79 rfl ?_
      refine wx_getI dX12_offer_80 fl_X12_489 (sc_73 hS) rfl ?_
      refine wx_iload_n dX12_offer_83 rfl ?_
      obtain ⟨w_84, h⟩ := ok_some h
      refine wx_iast dX12_offer_84 (sc_215 hS) (ix_in w_84) ?_
      refine wx_namM (fun M_84 q_84 => ?_)
      replace h := nm_at h q_84
      refine wx_aload_n dX12_offer_85 rfl ?_
      refine wx_getR dX12_offer_86 fl_X12_170 (sc_73 hS) rfl (rr_73_74 hS) ?_
      refine wx_aload_n dX12_offer_89 rfl ?_
      refine wx_getI dX12_offer_90 fl_X12_489 (sc_73 hS) rfl ?_
      refine wx_iload_n dX12_offer_93 rfl ?_
      obtain ⟨w_94, h⟩ := ok_some h
      refine wx_iast dX12_offer_94 (sc_216 hS) (ix_in w_94) ?_
      refine wx_namM (fun M_94 q_94 => ?_)
      replace h := nm_at h q_94
      refine wx_aload_n dX12_offer_95 rfl ?_
      refine wx_getR dX12_offer_96 fl_X12_173 (sc_73 hS) rfl (rr_73_75 hS) ?_
      refine wx_aload_n dX12_offer_99 rfl ?_
      refine wx_getI dX12_offer_100 fl_X12_489 (sc_73 hS) rfl ?_
      refine wx_iload_n dX12_offer_103 rfl ?_
      obtain ⟨w_104, h⟩ := ok_some h
      refine wx_iast dX12_offer_104 (sc_217 hS) (ix_in w_104) ?_
      refine wx_namM (fun M_104 q_104 => ?_)
      replace h := nm_at h q_104
      refine wx_aload_n dX12_offer_105 rfl ?_
      refine wx_getR dX12_offer_106 fl_X12_176 (sc_73 hS) rfl (rr_73_76 hS) ?_
      refine wx_aload_n dX12_offer_109 rfl ?_
      refine wx_getI dX12_offer_110 fl_X12_489 (sc_73 hS) rfl ?_
      refine wx_iload dX12_offer_113 rfl ?_
      obtain ⟨w_115, h⟩ := ok_some h
      refine wx_iast dX12_offer_115 (sc_218 hS) (ix_in w_115) ?_
      refine wx_namM (fun M_115 q_115 => ?_)
      replace h := nm_at h q_115
      refine wx_aload_n dX12_offer_116 rfl ?_
      refine wx_dup dX12_offer_117 rfl ?_
      refine wx_getI dX12_offer_118 fl_X12_489 (sc_73 hS) rfl ?_
      refine wx_iconst (v := 1) dX12_offer_121 (by decide) ?_
      refine wx_iadd dX12_offer_122 ?_
      refine wx_nami (fun v_123 q_123 => ?_)
      replace h := nm_at h q_123
      refine wx_putI dX12_offer_123 fl_X12_489 (sc_73 hS) (Or.inl rfl) rfl ⟨rfl, rfl⟩ ?_
      refine wx_namM (fun M_123 q_123 => ?_)
      replace h := nm_at h q_123
      refine wx_aload_n dX12_offer_126 rfl ?_
      refine wx_getI dX12_offer_127 fl_X12_489 (sc_73 hS) rfl ?_
      refine wx_iconst (v := 1) dX12_offer_130 (by decide) ?_
      refine wx_isub dX12_offer_131 ?_
      refine wx_iret dX12_offer_132 hcu hsu ?_
      obtain rfl := Option.some.inj h
      exact g
    · replace h := it_t h c_70
      refine wx_iconst (v := (-1)) dX12_offer_73 (by decide) ?_
      refine wx_iret dX12_offer_74 hcu hsu ?_
      obtain rfl := Option.some.inj h
      exact g
  · replace h := it_f h c_59
    refine wx_iconst (v := 0) dX12_offer_62 (by decide) ?_
    refine wx_iret dX12_offer_63 hcu hsu ?_
    obtain rfl := Option.some.inj h
    exact g
noncomputable def f_X12_offer_50 (M : px_M) (x1 : Int32) (x2 : Int32) (x3 : Int32) (x4 : Int32) : Option (Int32 × px_M) :=
  f_X12_offer_55 M x1 x2 x3 x4 1
theorem s_X12_offer_50 {x1 : Int32} {x2 : Int32} {x3 : Int32} {x4 : Int32} {M : px_M} {L : px_L} {R : px_R} {e : (Int32 × px_M)} (hS : SR sh R) (hd : 1 ≤ d) (hcu : cu ≤ mc) (hsu : su ≤ ms) (h : f_X12_offer_50 M x1 x2 x3 x4 = some e) (g : Post (some (.int (e.1))) sh (e.2) L R n) : WX RX12 cX12_offer 5 (some .int) ("offer", []) d mc ms X (px_QF Post mc ms) 50 [(0, .ref 73), (1, .int x1), (2, .int x2), (3, .int x3), (4, .int x4)] [.ref 73] sh M L R n cu su := by
  unfold f_X12_offer_50 at h
  refine wx_iconst (v := 1) dX12_offer_50 (by decide) ?_
  refine wx_goto (tgt := 55) dX12_offer_51 (by decide) ?_
  exact wx_sub (s_X12_offer_55 hS hd hcu hsu h g) (px_s rfl (px_s rfl (px_s rfl (px_s rfl (px_s rfl px_0)))))
noncomputable def f_X12_offer (M : px_M) (p1 : Int32) (p2 : Int32) (p3 : Int32) (p4 : Int32) : Option (Int32 × px_M) :=
  nm (px_u M 73 0 0) fun M_2 =>
  bd1 (f_X12_in p1 (-20) 20) fun e_11 =>
  if e_11 = 0 then
    f_X12_offer_50 M_2 p1 p2 p3 p4
  else
    bd1 (f_X12_in p2 (-20) 20) fun e_22 =>
    if e_22 = 0 then
      f_X12_offer_50 M_2 p1 p2 p3 p4
    else
      bd1 (f_X12_in p3 0 1000) fun e_33 =>
      if e_33 = 0 then
        f_X12_offer_50 M_2 p1 p2 p3 p4
      else
        bd1 (f_X12_in p4 0 100) fun e_44 =>
        if e_44 = 0 then
          f_X12_offer_50 M_2 p1 p2 p3 p4
        else
          f_X12_offer_55 M_2 p1 p2 p3 p4 0
theorem s_X12_offer {d : Nat} {X : Nat × (Nat → Int32)} {sh : px_Sh} {M : px_M} {L : px_L} {R : px_R} {n : Nat} {p1 : Int32} {p2 : Int32} {p3 : Int32} {p4 : Int32} {e : Int32 × px_M} (hS : SR sh R) (hd : 1 ≤ d) (h : f_X12_offer M p1 p2 p3 p4 = some e) : MX yX12_offer cX12_offer 5 (some .int) d 0 0 X [.ref 73, .int p1, .int p2, .int p3, .int p4] sh M L R n (px_pu (some (.int e.1)) sh e.2 L R n) := by
  refine MX.of (by decide +kernel) (by exact Nat.le_of_ble_eq_true rfl) ?_
  have hcu : 0 ≤ 0 := Nat.zero_le _
  have hsu : 0 ≤ 0 := Nat.zero_le _
  have g : px_pu (some (.int e.1)) sh e.2 L R n (some (.int e.1)) sh e.2 L R n := ⟨rfl, rfl, rfl, rfl, rfl, rfl⟩
  unfold f_X12_offer at h
  refine wx_aload_n dX12_offer_0 rfl ?_
  refine wx_iconst (v := 0) dX12_offer_1 (by decide) ?_
  refine wx_putI dX12_offer_2 fl_X12_179 (sc_73 hS) (Or.inl rfl) rfl ⟨rfl, rfl⟩ ?_
  refine wx_namM (fun M_2 q_2 => ?_)
  replace h := nm_at h q_2
  refine wx_aload_n dX12_offer_5 rfl ?_
  refine wx_iload_n dX12_offer_6 rfl ?_
  refine wx_bipush (v := (-20)) dX12_offer_7 (by decide) ?_
  refine wx_bipush (v := 20) dX12_offer_9 (by decide) ?_
  obtain ⟨e_11, k_11, h⟩ := bd1_some h
  refine wx_cSi dX12_offer_11 ml_X12_203 my_X12_in sv_X12_in (s_X12_in (d := d - 1) hS (by omega) k_11) rfl (by omega) (by exact Nat.le_of_ble_eq_true rfl) hcu hsu ?_
  refine wx_if_eq (tgt := 50) dX12_offer_14 (by decide) (fun c_14 => ?_) (fun c_14 => ?_)
  · replace h := it_t h c_14
    exact wx_sub (s_X12_offer_50 hS hd hcu hsu h g) (px_s rfl (px_s rfl (px_s rfl (px_s rfl (px_s rfl px_0)))))
  · replace h := it_f h c_14
    refine wx_iload_n dX12_offer_17 rfl ?_
    refine wx_bipush (v := (-20)) dX12_offer_18 (by decide) ?_
    refine wx_bipush (v := 20) dX12_offer_20 (by decide) ?_
    obtain ⟨e_22, k_22, h⟩ := bd1_some h
    refine wx_cSi dX12_offer_22 ml_X12_203 my_X12_in sv_X12_in (s_X12_in (d := d - 1) hS (by omega) k_22) rfl (by omega) (by exact Nat.le_of_ble_eq_true rfl) hcu hsu ?_
    refine wx_if_eq (tgt := 50) dX12_offer_25 (by decide) (fun c_25 => ?_) (fun c_25 => ?_)
    · replace h := it_t h c_25
      exact wx_sub (s_X12_offer_50 hS hd hcu hsu h g) (px_s rfl (px_s rfl (px_s rfl (px_s rfl (px_s rfl px_0)))))
    · replace h := it_f h c_25
      refine wx_iload_n dX12_offer_28 rfl ?_
      refine wx_iconst (v := 0) dX12_offer_29 (by decide) ?_
      refine wx_sipush (v := 1000) dX12_offer_30 (by decide) ?_
      obtain ⟨e_33, k_33, h⟩ := bd1_some h
      refine wx_cSi dX12_offer_33 ml_X12_203 my_X12_in sv_X12_in (s_X12_in (d := d - 1) hS (by omega) k_33) rfl (by omega) (by exact Nat.le_of_ble_eq_true rfl) hcu hsu ?_
      refine wx_if_eq (tgt := 50) dX12_offer_36 (by decide) (fun c_36 => ?_) (fun c_36 => ?_)
      · replace h := it_t h c_36
        exact wx_sub (s_X12_offer_50 hS hd hcu hsu h g) (px_s rfl (px_s rfl (px_s rfl (px_s rfl (px_s rfl px_0)))))
      · replace h := it_f h c_36
        refine wx_iload dX12_offer_39 rfl ?_
        refine wx_iconst (v := 0) dX12_offer_41 (by decide) ?_
        refine wx_bipush (v := 100) dX12_offer_42 (by decide) ?_
        obtain ⟨e_44, k_44, h⟩ := bd1_some h
        refine wx_cSi dX12_offer_44 ml_X12_203 my_X12_in sv_X12_in (s_X12_in (d := d - 1) hS (by omega) k_44) rfl (by omega) (by exact Nat.le_of_ble_eq_true rfl) hcu hsu ?_
        refine wx_if_ne (tgt := 54) dX12_offer_47 (by decide) (fun c_47 => ?_) (fun c_47 => ?_)
        · replace h := it_f h c_47
          refine wx_iconst (v := 0) dX12_offer_54 (by decide) ?_
          exact wx_sub (s_X12_offer_55 hS hd hcu hsu h g) (px_s rfl (px_s rfl (px_s rfl (px_s rfl (px_s rfl px_0)))))
        · replace h := it_t h c_47
          exact wx_sub (s_X12_offer_50 hS hd hcu hsu h g) (px_s rfl (px_s rfl (px_s rfl (px_s rfl (px_s rfl px_0)))))
noncomputable def f_X12_sumOf_95 (M : px_M) (x1 : Int32) (x2 : Int32) (x3 : Int32) (x4 : Int32) : Option ((Int32 × Int32) ⊕ (Int32)) :=
  some (.inl (x3, (x4 + 1)))
theorem s_X12_sumOf_95 {x1 : Int32} {x2 : Int32} {x3 : Int32} {x4 : Int32} {M : px_M} {L : px_L} {R : px_R} {e : ((Int32 × Int32) ⊕ (Int32))} (hS : SR sh R) (hd : 0 ≤ d) (hcu : cu ≤ mc) (hsu : su ≤ ms) (h : f_X12_sumOf_95 M x1 x2 x3 x4 = some e) (g : (sE (fun a => WX RX12 cX12_sumOf 5 (some .int) ("sumOf", []) d mc ms X (px_QF Post mc ms) 5 [(0, .ref 73), (1, .int x1), (2, .int x2), (3, .int a.1), (4, .int a.2)] [] sh M L R n cu su) (fun t => WX RX12 cX12_sumOf 5 (some .int) ("sumOf", []) d mc ms X (px_QF Post mc ms) 101 [(3, .int t)] [] sh M L R n cu su)) e) : WX RX12 cX12_sumOf 5 (some .int) ("sumOf", []) d mc ms X (px_QF Post mc ms) 95 [(0, .ref 73), (1, .int x1), (2, .int x2), (3, .int x3), (4, .int x4)] [] sh M L R n cu su := by
  unfold f_X12_sumOf_95 at h
  refine wx_iinc (lv' := [(4, _), (0, _), (1, _), (2, _), (3, _)]) dX12_sumOf_95 rfl (i_1 _) (by decide) rfl ?_
  refine wx_goto (tgt := 5) dX12_sumOf_98 (by decide) ?_
  obtain rfl := Option.some.inj h
  replace g := sE_l g
  exact wx_sub g (px_s rfl (px_s rfl (px_s rfl (px_s rfl (px_s rfl px_0)))))
noncomputable def f_X12_sumOf_93 (M : px_M) (x1 : Int32) (x2 : Int32) (x4 : Int32) (z0 : Int32) (z1 : Int32) : Option ((Int32 × Int32) ⊕ (Int32)) :=
  nm (z1 + z0) fun v_94 =>
  f_X12_sumOf_95 M x1 x2 v_94 x4
theorem s_X12_sumOf_93 {x1 : Int32} {x2 : Int32} {x4 : Int32} {z0 : Int32} {z1 : Int32} {M : px_M} {L : px_L} {R : px_R} {e : ((Int32 × Int32) ⊕ (Int32))} (hS : SR sh R) (hd : 0 ≤ d) (hcu : cu ≤ mc) (hsu : su ≤ ms) (h : f_X12_sumOf_93 M x1 x2 x4 z0 z1 = some e) (g : (sE (fun a => WX RX12 cX12_sumOf 5 (some .int) ("sumOf", []) d mc ms X (px_QF Post mc ms) 5 [(0, .ref 73), (1, .int x1), (2, .int x2), (3, .int a.1), (4, .int a.2)] [] sh M L R n cu su) (fun t => WX RX12 cX12_sumOf 5 (some .int) ("sumOf", []) d mc ms X (px_QF Post mc ms) 101 [(3, .int t)] [] sh M L R n cu su)) e) : WX RX12 cX12_sumOf 5 (some .int) ("sumOf", []) d mc ms X (px_QF Post mc ms) 93 [(0, .ref 73), (1, .int x1), (2, .int x2), (4, .int x4)] [.int z0, .int z1] sh M L R n cu su := by
  unfold f_X12_sumOf_93 at h
  refine wx_iadd dX12_sumOf_93 ?_
  refine wx_nami (fun v_94 q_94 => ?_)
  replace h := nm_at h q_94
  refine wx_istore_n (lv' := [(3, _), (0, _), (1, _), (2, _), (4, _)]) dX12_sumOf_94 (by decide) rfl ?_
  exact wx_sub (s_X12_sumOf_95 hS hd hcu hsu h g) (px_s rfl (px_s rfl (px_s rfl (px_s rfl (px_s rfl px_0)))))
noncomputable def f_X12_sumOf_5 (M : px_M) (x1 : Int32) (x2 : Int32) (x3 : Int32) (x4 : Int32) : Option ((Int32 × Int32) ⊕ (Int32)) :=
  if (M 73 59) ≤ x4 then
    some (.inr x3)
  else
    if ((x1 >>> (x4 &&& 31)) &&& 1) = 1 then
      if x2 = 1 then
        ok (ix x4 12) <|
        f_X12_sumOf_93 M x1 x2 x4 (M 217 x4.toNatClampNeg) x3
      else
        if x2 = 2 then
          ok (ix x4 12) <|
          f_X12_sumOf_93 M x1 x2 x4 (M 218 x4.toNatClampNeg) x3
        else
          if x2 = 3 then
            ok (ix x4 12) <|
            ok (ix x4 12) <|
            f_X12_sumOf_93 M x1 x2 x4 ((M 217 x4.toNatClampNeg) * (M 215 x4.toNatClampNeg)) x3
          else
            ok (ix x4 12) <|
            ok (ix x4 12) <|
            f_X12_sumOf_93 M x1 x2 x4 ((M 217 x4.toNatClampNeg) * (M 216 x4.toNatClampNeg)) x3
    else
      f_X12_sumOf_95 M x1 x2 x3 x4
theorem s_X12_sumOf_5b {x1 : Int32} {x2 : Int32} {x3 : Int32} {x4 : Int32} {M : px_M} {L : px_L} {R : px_R} {e : ((Int32 × Int32) ⊕ (Int32))} (hS : SR sh R) (hd : 0 ≤ d) (hcu : cu ≤ mc) (hsu : su ≤ ms) (h : f_X12_sumOf_5 M x1 x2 x3 x4 = some e) (g : (sE (fun a => WX RX12 cX12_sumOf 5 (some .int) ("sumOf", []) d mc ms X (px_QF Post mc ms) 5 [(0, .ref 73), (1, .int x1), (2, .int x2), (3, .int a.1), (4, .int a.2)] [] sh M L R n cu su) (fun t => WX RX12 cX12_sumOf 5 (some .int) ("sumOf", []) d mc ms X (px_QF Post mc ms) 101 [(3, .int t)] [] sh M L R n cu su)) e) : WX RX12 cX12_sumOf 5 (some .int) ("sumOf", []) d mc ms X (px_QF Post mc ms) 5 [(0, .ref 73), (1, .int x1), (2, .int x2), (3, .int x3), (4, .int x4)] [] sh M L R n cu su := by
  unfold f_X12_sumOf_5 at h
  refine wx_iload dX12_sumOf_5 rfl ?_
  refine wx_aload_n dX12_sumOf_7 rfl ?_
  refine wx_getI dX12_sumOf_8 fl_X12_489 (sc_73 hS) rfl ?_
  refine wx_icmp_ge (tgt := 101) dX12_sumOf_11 (by decide) (fun c_11 => ?_) (fun c_11 => ?_)
  · replace h := it_t h c_11
    obtain rfl := Option.some.inj h
    replace g := sE_r g
    exact wx_sub g (px_s rfl px_0)
  · replace h := it_f h c_11
    refine wx_iload_n dX12_sumOf_14 rfl ?_
    refine wx_iload dX12_sumOf_15 rfl ?_
    refine wx_ishr dX12_sumOf_17 ?_
    refine wx_iconst (v := 1) dX12_sumOf_18 (by decide) ?_
    refine wx_iand dX12_sumOf_19 ?_
    refine wx_iconst (v := 1) dX12_sumOf_20 (by decide) ?_
    refine wx_icmp_ne (tgt := 95) dX12_sumOf_21 (by decide) (fun c_21 => ?_) (fun c_21 => ?_)
    · replace h := it_f h c_21
      exact wx_sub (s_X12_sumOf_95 hS hd hcu hsu h g) (px_s rfl (px_s rfl (px_s rfl (px_s rfl (px_s rfl px_0)))))
    · replace h := it_t h c_21
      refine wx_iload_n dX12_sumOf_24 rfl ?_
      refine wx_iload_n dX12_sumOf_25 rfl ?_
      refine wx_iconst (v := 1) dX12_sumOf_26 (by decide) ?_
      refine wx_icmp_ne (tgt := 40) dX12_sumOf_27 (by decide) (fun c_27 => ?_) (fun c_27 => ?_)
      · replace h := it_f h c_27
        refine wx_iload_n dX12_sumOf_40 rfl ?_
        refine wx_iconst (v := 2) dX12_sumOf_41 (by decide) ?_
        refine wx_icmp_ne (tgt := 55) dX12_sumOf_42 (by decide) (fun c_42 => ?_) (fun c_42 => ?_)
        · replace h := it_f h c_42
          refine wx_iload_n dX12_sumOf_55 rfl ?_
          refine wx_iconst (v := 3) dX12_sumOf_56 (by decide) ?_
          refine wx_icmp_ne (tgt := 78) dX12_sumOf_57 (by decide) (fun c_57 => ?_) (fun c_57 => ?_)
          · replace h := it_f h c_57
            refine wx_aload_n dX12_sumOf_78 rfl ?_
            refine wx_getR dX12_sumOf_79 fl_X12_173 (sc_73 hS) rfl (rr_73_75 hS) ?_
            refine wx_iload dX12_sumOf_82 rfl ?_
            obtain ⟨w_84, h⟩ := ok_some h
            refine wx_iald dX12_sumOf_84 (sc_217 hS) (ix_in w_84) ?_
            refine wx_aload_n dX12_sumOf_85 rfl ?_
            refine wx_getR dX12_sumOf_86 fl_X12_170 (sc_73 hS) rfl (rr_73_74 hS) ?_
            refine wx_iload dX12_sumOf_89 rfl ?_
            obtain ⟨w_91, h⟩ := ok_some h
            refine wx_iald dX12_sumOf_91 (sc_216 hS) (ix_in w_91) ?_
            refine wx_imul dX12_sumOf_92 ?_
            exact wx_sub (s_X12_sumOf_93 hS hd hcu hsu h g) (px_s rfl (px_s rfl (px_s rfl (px_s rfl px_0))))
          · replace h := it_t h c_57
            refine wx_aload_n dX12_sumOf_60 rfl ?_
            refine wx_getR dX12_sumOf_61 fl_X12_173 (sc_73 hS) rfl (rr_73_75 hS) ?_
            refine wx_iload dX12_sumOf_64 rfl ?_
            obtain ⟨w_66, h⟩ := ok_some h
            refine wx_iald dX12_sumOf_66 (sc_217 hS) (ix_in w_66) ?_
            refine wx_aload_n dX12_sumOf_67 rfl ?_
            refine wx_getR dX12_sumOf_68 fl_X12_167 (sc_73 hS) rfl (rr_73_73 hS) ?_
            refine wx_iload dX12_sumOf_71 rfl ?_
            obtain ⟨w_73, h⟩ := ok_some h
            refine wx_iald dX12_sumOf_73 (sc_215 hS) (ix_in w_73) ?_
            refine wx_imul dX12_sumOf_74 ?_
            refine wx_goto (tgt := 93) dX12_sumOf_75 (by decide) ?_
            exact wx_sub (s_X12_sumOf_93 hS hd hcu hsu h g) (px_s rfl (px_s rfl (px_s rfl (px_s rfl px_0))))
        · replace h := it_t h c_42
          refine wx_aload_n dX12_sumOf_45 rfl ?_
          refine wx_getR dX12_sumOf_46 fl_X12_176 (sc_73 hS) rfl (rr_73_76 hS) ?_
          refine wx_iload dX12_sumOf_49 rfl ?_
          obtain ⟨w_51, h⟩ := ok_some h
          refine wx_iald dX12_sumOf_51 (sc_218 hS) (ix_in w_51) ?_
          refine wx_goto (tgt := 93) dX12_sumOf_52 (by decide) ?_
          exact wx_sub (s_X12_sumOf_93 hS hd hcu hsu h g) (px_s rfl (px_s rfl (px_s rfl (px_s rfl px_0))))
      · replace h := it_t h c_27
        refine wx_aload_n dX12_sumOf_30 rfl ?_
        refine wx_getR dX12_sumOf_31 fl_X12_173 (sc_73 hS) rfl (rr_73_75 hS) ?_
        refine wx_iload dX12_sumOf_34 rfl ?_
        obtain ⟨w_36, h⟩ := ok_some h
        refine wx_iald dX12_sumOf_36 (sc_217 hS) (ix_in w_36) ?_
        refine wx_goto (tgt := 93) dX12_sumOf_37 (by decide) ?_
        exact wx_sub (s_X12_sumOf_93 hS hd hcu hsu h g) (px_s rfl (px_s rfl (px_s rfl (px_s rfl px_0))))
theorem s_X12_sumOf_5 {x1 : Int32} {x2 : Int32} {x3 : Int32} {x4 : Int32} {M : px_M} {L : px_L} {R : px_R} {e : (Int32)} (hS : SR sh R) (hd : 0 ≤ d) (hcu : cu ≤ mc) (hsu : su ≤ ms) (h : lpf (fun a : Int32 × Int32 => f_X12_sumOf_5 M x1 x2 a.1 a.2) (x3, x4) = some e) (g : WX RX12 cX12_sumOf 5 (some .int) ("sumOf", []) d mc ms X (px_QF Post mc ms) 101 [(3, .int e)] [] sh M L R n cu su) : WX RX12 cX12_sumOf 5 (some .int) ("sumOf", []) d mc ms X (px_QF Post mc ms) 5 [(0, .ref 73), (1, .int x1), (2, .int x2), (3, .int x3), (4, .int x4)] [] sh M L R n cu su := by
  have key := lpf_wp (P := (fun a => WX RX12 cX12_sumOf 5 (some .int) ("sumOf", []) d mc ms X (px_QF Post mc ms) 5 [(0, .ref 73), (1, .int x1), (2, .int x2), (3, .int a.1), (4, .int a.2)] [] sh M L R n cu su)) (G := (fun t => WX RX12 cX12_sumOf 5 (some .int) ("sumOf", []) d mc ms X (px_QF Post mc ms) 101 [(3, .int t)] [] sh M L R n cu su)) (fun a r h g => s_X12_sumOf_5b (x1 := x1) (x2 := x2) (x3 := a.1) (x4 := a.2) (M := M) (L := L) (R := R) hS hd hcu hsu h g) (a := (x3, x4)) h g
  exact key
noncomputable def f_X12_sumOf (M : px_M) (p1 : Int32) (p2 : Int32) : Option (Int32) :=
  bd1 (lpf (fun a : Int32 × Int32 => f_X12_sumOf_5 M p1 p2 a.1 a.2) (0, 0)) fun e_5 =>
  some e_5
theorem s_X12_sumOf {d : Nat} {X : Nat × (Nat → Int32)} {sh : px_Sh} {M : px_M} {L : px_L} {R : px_R} {n : Nat} {p1 : Int32} {p2 : Int32} {e : Int32} (hS : SR sh R) (hd : 0 ≤ d) (h : f_X12_sumOf M p1 p2 = some e) : MX yX12_sumOf cX12_sumOf 5 (some .int) d 0 0 X [.ref 73, .int p1, .int p2] sh M L R n (px_pu (some (.int e)) sh M L R n) := by
  refine MX.of (by decide +kernel) (by exact Nat.le_of_ble_eq_true rfl) ?_
  have hcu : 0 ≤ 0 := Nat.zero_le _
  have hsu : 0 ≤ 0 := Nat.zero_le _
  have g : px_pu (some (.int e)) sh M L R n (some (.int e)) sh M L R n := ⟨rfl, rfl, rfl, rfl, rfl, rfl⟩
  unfold f_X12_sumOf at h
  refine wx_iconst (v := 0) dX12_sumOf_0 (by decide) ?_
  refine wx_istore_n (lv' := [(3, _), (0, _), (1, _), (2, _)]) dX12_sumOf_1 (by decide) rfl ?_
  refine wx_iconst (v := 0) dX12_sumOf_2 (by decide) ?_
  refine wx_istore (lv' := [(4, _), (3, _), (0, _), (1, _), (2, _)]) dX12_sumOf_3 (by decide) rfl ?_
  obtain ⟨e_5, k_5, h⟩ := bd1_some h
  refine wx_sub (s_X12_sumOf_5 hS hd hcu hsu k_5 ?_) (px_s rfl (px_s rfl (px_s rfl (px_s rfl (px_s rfl px_0)))))
  refine wx_iload_n dX12_sumOf_101 rfl ?_
  refine wx_iret dX12_sumOf_102 hcu hsu ?_
  obtain rfl := Option.some.inj h
  exact g
noncomputable def f_X12_isAhead_74 (M : px_M) (x1 : Int32) (x2 : Int32) (x3 : Int32) : Option ((Int32) ⊕ (Int32)) :=
  if 12 ≤ x3 then
    some (.inr x3)
  else
    if ((x1 >>> (x3 &&& 31)) &&& 1) = ((x2 >>> (x3 &&& 31)) &&& 1) then
      some (.inl (x3 + 1))
    else
      some (.inr x3)
theorem s_X12_isAhead_74b {x1 : Int32} {x2 : Int32} {x3 : Int32} {M : px_M} {L : px_L} {R : px_R} {e : ((Int32) ⊕ (Int32))} (hS : SR sh R) (hd : 1 ≤ d) (hcu : cu ≤ mc) (hsu : su ≤ ms) (h : f_X12_isAhead_74 M x1 x2 x3 = some e) (g : (sE (fun a => WX RX12 cX12_isAhead 4 (some .boolean) ("isAhead", []) d mc ms X (px_QF Post mc ms) 74 [(1, .int x1), (2, .int x2), (3, .int a)] [] sh M L R n cu su) (fun t => WX RX12 cX12_isAhead 4 (some .boolean) ("isAhead", []) d mc ms X (px_QF Post mc ms) 99 [(1, .int x1), (3, .int t)] [] sh M L R n cu su)) e) : WX RX12 cX12_isAhead 4 (some .boolean) ("isAhead", []) d mc ms X (px_QF Post mc ms) 74 [(1, .int x1), (2, .int x2), (3, .int x3)] [] sh M L R n cu su := by
  unfold f_X12_isAhead_74 at h
  refine wx_iload_n dX12_isAhead_74 rfl ?_
  refine wx_bipush (v := 12) dX12_isAhead_75 (by decide) ?_
  refine wx_icmp_ge (tgt := 99) dX12_isAhead_77 (by decide) (fun c_77 => ?_) (fun c_77 => ?_)
  · replace h := it_t h c_77
    obtain rfl := Option.some.inj h
    replace g := sE_r g
    exact wx_sub g (px_s rfl (px_s rfl px_0))
  · replace h := it_f h c_77
    refine wx_iload_n dX12_isAhead_80 rfl ?_
    refine wx_iload_n dX12_isAhead_81 rfl ?_
    refine wx_ishr dX12_isAhead_82 ?_
    refine wx_iconst (v := 1) dX12_isAhead_83 (by decide) ?_
    refine wx_iand dX12_isAhead_84 ?_
    refine wx_iload_n dX12_isAhead_85 rfl ?_
    refine wx_iload_n dX12_isAhead_86 rfl ?_
    refine wx_ishr dX12_isAhead_87 ?_
    refine wx_iconst (v := 1) dX12_isAhead_88 (by decide) ?_
    refine wx_iand dX12_isAhead_89 ?_
    refine wx_icmp_ne (tgt := 99) dX12_isAhead_90 (by decide) (fun c_90 => ?_) (fun c_90 => ?_)
    · replace h := it_f h c_90
      obtain rfl := Option.some.inj h
      replace g := sE_r g
      exact wx_sub g (px_s rfl (px_s rfl px_0))
    · replace h := it_t h c_90
      refine wx_iinc (lv' := [(3, _), (1, _), (2, _)]) dX12_isAhead_93 rfl (i_1 _) (by decide) rfl ?_
      refine wx_goto (tgt := 74) dX12_isAhead_96 (by decide) ?_
      obtain rfl := Option.some.inj h
      replace g := sE_l g
      exact wx_sub g (px_s rfl (px_s rfl (px_s rfl px_0)))
theorem s_X12_isAhead_74 {x1 : Int32} {x2 : Int32} {x3 : Int32} {M : px_M} {L : px_L} {R : px_R} {e : (Int32)} (hS : SR sh R) (hd : 1 ≤ d) (hcu : cu ≤ mc) (hsu : su ≤ ms) (h : lpf (fun a : Int32 => f_X12_isAhead_74 M x1 x2 a) x3 = some e) (g : WX RX12 cX12_isAhead 4 (some .boolean) ("isAhead", []) d mc ms X (px_QF Post mc ms) 99 [(1, .int x1), (3, .int e)] [] sh M L R n cu su) : WX RX12 cX12_isAhead 4 (some .boolean) ("isAhead", []) d mc ms X (px_QF Post mc ms) 74 [(1, .int x1), (2, .int x2), (3, .int x3)] [] sh M L R n cu su := by
  have key := lpf_wp (P := (fun a => WX RX12 cX12_isAhead 4 (some .boolean) ("isAhead", []) d mc ms X (px_QF Post mc ms) 74 [(1, .int x1), (2, .int x2), (3, .int a)] [] sh M L R n cu su)) (G := (fun t => WX RX12 cX12_isAhead 4 (some .boolean) ("isAhead", []) d mc ms X (px_QF Post mc ms) 99 [(1, .int x1), (3, .int t)] [] sh M L R n cu su)) (fun a r h g => s_X12_isAhead_74b (x1 := x1) (x2 := x2) (x3 := a) (M := M) (L := L) (R := R) hS hd hcu hsu h g) (a := x3) h g
  exact key
noncomputable def f_X12_isAhead_119 (M : px_M) (z0 : Int32) : Option (Int32) :=
  ok (zb z0) <|
  some z0
theorem s_X12_isAhead_119 {z0 : Int32} {M : px_M} {L : px_L} {R : px_R} {e : (Int32)} (hS : SR sh R) (hd : 1 ≤ d) (hcu : cu ≤ mc) (hsu : su ≤ ms) (h : f_X12_isAhead_119 M z0 = some e) (g : Post (some (.int e)) sh M L R n) : WX RX12 cX12_isAhead 4 (some .boolean) ("isAhead", []) d mc ms X (px_QF Post mc ms) 119 [] [.int z0] sh M L R n cu su := by
  unfold f_X12_isAhead_119 at h
  obtain ⟨w_119, h⟩ := ok_some h
  refine wx_zret dX12_isAhead_119 (zb_n w_119) hcu hsu ?_
  obtain rfl := Option.some.inj h
  exact g
noncomputable def f_X12_isAhead_118 (M : px_M) : Option (Int32) :=
  f_X12_isAhead_119 M 0
theorem s_X12_isAhead_118 {M : px_M} {L : px_L} {R : px_R} {e : (Int32)} (hS : SR sh R) (hd : 1 ≤ d) (hcu : cu ≤ mc) (hsu : su ≤ ms) (h : f_X12_isAhead_118 M = some e) (g : Post (some (.int e)) sh M L R n) : WX RX12 cX12_isAhead 4 (some .boolean) ("isAhead", []) d mc ms X (px_QF Post mc ms) 118 [] [] sh M L R n cu su := by
  unfold f_X12_isAhead_118 at h
  refine wx_iconst (v := 0) dX12_isAhead_118 (by decide) ?_
  exact wx_sub (s_X12_isAhead_119 hS hd hcu hsu h g) px_0
noncomputable def f_X12_isAhead_71 (M : px_M) (z0 : Int32) : Option (Int32) :=
  ok (zb z0) <|
  some z0
theorem s_X12_isAhead_71 {z0 : Int32} {M : px_M} {L : px_L} {R : px_R} {e : (Int32)} (hS : SR sh R) (hd : 1 ≤ d) (hcu : cu ≤ mc) (hsu : su ≤ ms) (h : f_X12_isAhead_71 M z0 = some e) (g : Post (some (.int e)) sh M L R n) : WX RX12 cX12_isAhead 4 (some .boolean) ("isAhead", []) d mc ms X (px_QF Post mc ms) 71 [] [.int z0] sh M L R n cu su := by
  unfold f_X12_isAhead_71 at h
  obtain ⟨w_71, h⟩ := ok_some h
  refine wx_zret dX12_isAhead_71 (zb_n w_71) hcu hsu ?_
  obtain rfl := Option.some.inj h
  exact g
noncomputable def f_X12_isAhead_35 (M : px_M) (z0 : Int32) : Option (Int32) :=
  ok (zb z0) <|
  some z0
theorem s_X12_isAhead_35 {z0 : Int32} {M : px_M} {L : px_L} {R : px_R} {e : (Int32)} (hS : SR sh R) (hd : 1 ≤ d) (hcu : cu ≤ mc) (hsu : su ≤ ms) (h : f_X12_isAhead_35 M z0 = some e) (g : Post (some (.int e)) sh M L R n) : WX RX12 cX12_isAhead 4 (some .boolean) ("isAhead", []) d mc ms X (px_QF Post mc ms) 35 [] [.int z0] sh M L R n cu su := by
  unfold f_X12_isAhead_35 at h
  obtain ⟨w_35, h⟩ := ok_some h
  refine wx_zret dX12_isAhead_35 (zb_n w_35) hcu hsu ?_
  obtain rfl := Option.some.inj h
  exact g
noncomputable def f_X12_isAhead (M : px_M) (p1 : Int32) (p2 : Int32) : Option (Int32) :=
  bd1 (f_X12_sumOf M p1 1) fun e_3 =>
  bd1 (f_X12_sumOf M p2 1) fun e_9 =>
  if e_3 = e_9 then
    bd1 (f_X12_sumOf M p1 2) fun e_39 =>
    bd1 (f_X12_sumOf M p2 2) fun e_45 =>
    if e_39 = e_45 then
      bd1 (lpf (fun a : Int32 => f_X12_isAhead_74 M p1 p2 a) 0) fun e_74 =>
      if 12 ≤ e_74 then
        f_X12_isAhead_118 M
      else
        if ((p1 >>> (e_74 &&& 31)) &&& 1) = 1 then
          f_X12_isAhead_119 M 1
        else
          f_X12_isAhead_118 M
    else
      bd1 (f_X12_sumOf M p1 2) fun e_54 =>
      bd1 (f_X12_sumOf M p2 2) fun e_60 =>
      if e_60 ≤ e_54 then
        f_X12_isAhead_71 M 0
      else
        f_X12_isAhead_71 M 1
  else
    bd1 (f_X12_sumOf M p1 1) fun e_18 =>
    bd1 (f_X12_sumOf M p2 1) fun e_24 =>
    if e_18 ≤ e_24 then
      f_X12_isAhead_35 M 0
    else
      f_X12_isAhead_35 M 1
theorem s_X12_isAhead {d : Nat} {X : Nat × (Nat → Int32)} {sh : px_Sh} {M : px_M} {L : px_L} {R : px_R} {n : Nat} {p1 : Int32} {p2 : Int32} {e : Int32} (hS : SR sh R) (hd : 1 ≤ d) (h : f_X12_isAhead M p1 p2 = some e) : MX yX12_isAhead cX12_isAhead 4 (some .boolean) d 0 0 X [.ref 73, .int p1, .int p2] sh M L R n (px_pu (some (.int e)) sh M L R n) := by
  refine MX.of (by decide +kernel) (by exact Nat.le_of_ble_eq_true rfl) ?_
  have hcu : 0 ≤ 0 := Nat.zero_le _
  have hsu : 0 ≤ 0 := Nat.zero_le _
  have g : px_pu (some (.int e)) sh M L R n (some (.int e)) sh M L R n := ⟨rfl, rfl, rfl, rfl, rfl, rfl⟩
  unfold f_X12_isAhead at h
  refine wx_aload_n dX12_isAhead_0 rfl ?_
  refine wx_iload_n dX12_isAhead_1 rfl ?_
  refine wx_iconst (v := 1) dX12_isAhead_2 (by decide) ?_
  obtain ⟨e_3, k_3, h⟩ := bd1_some h
  refine wx_cVi dX12_isAhead_3 ml_X12_492 my_X12_sumOf iv_X12_sumOf (sc_73 hS) (by decide) (s_X12_sumOf (d := d - 1) hS (by omega) k_3) rfl (by omega) (by exact Nat.le_of_ble_eq_true rfl) hcu hsu ?_
  refine wx_aload_n dX12_isAhead_6 rfl ?_
  refine wx_iload_n dX12_isAhead_7 rfl ?_
  refine wx_iconst (v := 1) dX12_isAhead_8 (by decide) ?_
  obtain ⟨e_9, k_9, h⟩ := bd1_some h
  refine wx_cVi dX12_isAhead_9 ml_X12_492 my_X12_sumOf iv_X12_sumOf (sc_73 hS) (by decide) (s_X12_sumOf (d := d - 1) hS (by omega) k_9) rfl (by omega) (by exact Nat.le_of_ble_eq_true rfl) hcu hsu ?_
  refine wx_icmp_eq (tgt := 36) dX12_isAhead_12 (by decide) (fun c_12 => ?_) (fun c_12 => ?_)
  · replace h := it_t h c_12
    refine wx_aload_n dX12_isAhead_36 rfl ?_
    refine wx_iload_n dX12_isAhead_37 rfl ?_
    refine wx_iconst (v := 2) dX12_isAhead_38 (by decide) ?_
    obtain ⟨e_39, k_39, h⟩ := bd1_some h
    refine wx_cVi dX12_isAhead_39 ml_X12_492 my_X12_sumOf iv_X12_sumOf (sc_73 hS) (by decide) (s_X12_sumOf (d := d - 1) hS (by omega) k_39) rfl (by omega) (by exact Nat.le_of_ble_eq_true rfl) hcu hsu ?_
    refine wx_aload_n dX12_isAhead_42 rfl ?_
    refine wx_iload_n dX12_isAhead_43 rfl ?_
    refine wx_iconst (v := 2) dX12_isAhead_44 (by decide) ?_
    obtain ⟨e_45, k_45, h⟩ := bd1_some h
    refine wx_cVi dX12_isAhead_45 ml_X12_492 my_X12_sumOf iv_X12_sumOf (sc_73 hS) (by decide) (s_X12_sumOf (d := d - 1) hS (by omega) k_45) rfl (by omega) (by exact Nat.le_of_ble_eq_true rfl) hcu hsu ?_
    refine wx_icmp_eq (tgt := 72) dX12_isAhead_48 (by decide) (fun c_48 => ?_) (fun c_48 => ?_)
    · replace h := it_t h c_48
      refine wx_iconst (v := 0) dX12_isAhead_72 (by decide) ?_
      refine wx_istore_n (lv' := [(3, _), (0, _), (1, _), (2, _)]) dX12_isAhead_73 (by decide) rfl ?_
      obtain ⟨e_74, k_74, h⟩ := bd1_some h
      refine wx_sub (s_X12_isAhead_74 hS hd hcu hsu k_74 ?_) (px_s rfl (px_s rfl (px_s rfl px_0)))
      refine wx_iload_n dX12_isAhead_99 rfl ?_
      refine wx_bipush (v := 12) dX12_isAhead_100 (by decide) ?_
      refine wx_icmp_ge (tgt := 118) dX12_isAhead_102 (by decide) (fun c_102 => ?_) (fun c_102 => ?_)
      · replace h := it_t h c_102
        exact wx_sub (s_X12_isAhead_118 hS hd hcu hsu h g) px_0
      · replace h := it_f h c_102
        refine wx_iload_n dX12_isAhead_105 rfl ?_
        refine wx_iload_n dX12_isAhead_106 rfl ?_
        refine wx_ishr dX12_isAhead_107 ?_
        refine wx_iconst (v := 1) dX12_isAhead_108 (by decide) ?_
        refine wx_iand dX12_isAhead_109 ?_
        refine wx_iconst (v := 1) dX12_isAhead_110 (by decide) ?_
        refine wx_icmp_ne (tgt := 118) dX12_isAhead_111 (by decide) (fun c_111 => ?_) (fun c_111 => ?_)
        · replace h := it_f h c_111
          exact wx_sub (s_X12_isAhead_118 hS hd hcu hsu h g) px_0
        · replace h := it_t h c_111
          refine wx_iconst (v := 1) dX12_isAhead_114 (by decide) ?_
          refine wx_goto (tgt := 119) dX12_isAhead_115 (by decide) ?_
          exact wx_sub (s_X12_isAhead_119 hS hd hcu hsu h g) px_0
    · replace h := it_f h c_48
      refine wx_aload_n dX12_isAhead_51 rfl ?_
      refine wx_iload_n dX12_isAhead_52 rfl ?_
      refine wx_iconst (v := 2) dX12_isAhead_53 (by decide) ?_
      obtain ⟨e_54, k_54, h⟩ := bd1_some h
      refine wx_cVi dX12_isAhead_54 ml_X12_492 my_X12_sumOf iv_X12_sumOf (sc_73 hS) (by decide) (s_X12_sumOf (d := d - 1) hS (by omega) k_54) rfl (by omega) (by exact Nat.le_of_ble_eq_true rfl) hcu hsu ?_
      refine wx_aload_n dX12_isAhead_57 rfl ?_
      refine wx_iload_n dX12_isAhead_58 rfl ?_
      refine wx_iconst (v := 2) dX12_isAhead_59 (by decide) ?_
      obtain ⟨e_60, k_60, h⟩ := bd1_some h
      refine wx_cVi dX12_isAhead_60 ml_X12_492 my_X12_sumOf iv_X12_sumOf (sc_73 hS) (by decide) (s_X12_sumOf (d := d - 1) hS (by omega) k_60) rfl (by omega) (by exact Nat.le_of_ble_eq_true rfl) hcu hsu ?_
      refine wx_icmp_ge (tgt := 70) dX12_isAhead_63 (by decide) (fun c_63 => ?_) (fun c_63 => ?_)
      · replace h := it_t h c_63
        refine wx_iconst (v := 0) dX12_isAhead_70 (by decide) ?_
        exact wx_sub (s_X12_isAhead_71 hS hd hcu hsu h g) px_0
      · replace h := it_f h c_63
        refine wx_iconst (v := 1) dX12_isAhead_66 (by decide) ?_
        refine wx_goto (tgt := 71) dX12_isAhead_67 (by decide) ?_
        exact wx_sub (s_X12_isAhead_71 hS hd hcu hsu h g) px_0
  · replace h := it_f h c_12
    refine wx_aload_n dX12_isAhead_15 rfl ?_
    refine wx_iload_n dX12_isAhead_16 rfl ?_
    refine wx_iconst (v := 1) dX12_isAhead_17 (by decide) ?_
    obtain ⟨e_18, k_18, h⟩ := bd1_some h
    refine wx_cVi dX12_isAhead_18 ml_X12_492 my_X12_sumOf iv_X12_sumOf (sc_73 hS) (by decide) (s_X12_sumOf (d := d - 1) hS (by omega) k_18) rfl (by omega) (by exact Nat.le_of_ble_eq_true rfl) hcu hsu ?_
    refine wx_aload_n dX12_isAhead_21 rfl ?_
    refine wx_iload_n dX12_isAhead_22 rfl ?_
    refine wx_iconst (v := 1) dX12_isAhead_23 (by decide) ?_
    obtain ⟨e_24, k_24, h⟩ := bd1_some h
    refine wx_cVi dX12_isAhead_24 ml_X12_492 my_X12_sumOf iv_X12_sumOf (sc_73 hS) (by decide) (s_X12_sumOf (d := d - 1) hS (by omega) k_24) rfl (by omega) (by exact Nat.le_of_ble_eq_true rfl) hcu hsu ?_
    refine wx_icmp_le (tgt := 34) dX12_isAhead_27 (by decide) (fun c_27 => ?_) (fun c_27 => ?_)
    · replace h := it_t h c_27
      refine wx_iconst (v := 0) dX12_isAhead_34 (by decide) ?_
      exact wx_sub (s_X12_isAhead_35 hS hd hcu hsu h g) px_0
    · replace h := it_f h c_27
      refine wx_iconst (v := 1) dX12_isAhead_30 (by decide) ?_
      refine wx_goto (tgt := 35) dX12_isAhead_31 (by decide) ?_
      exact wx_sub (s_X12_isAhead_35 hS hd hcu hsu h g) px_0
noncomputable def f_X12_sheet_130 (M : px_M) (x1 : Int32) (x2 : Int32) (x3 : Int32) (x4 : Int32) (x5 : Int32) : Option ((Int32 × Int32) ⊕ (Int32)) :=
  some (.inl (x4, (x5 + 1)))
theorem s_X12_sheet_130 {x1 : Int32} {x2 : Int32} {x3 : Int32} {x4 : Int32} {x5 : Int32} {M : px_M} {L : px_L} {R : px_R} {e : ((Int32 × Int32) ⊕ (Int32))} (hS : SR sh R) (hd : 2 ≤ d) (hcu : cu ≤ mc) (hsu : su ≤ ms) (h : f_X12_sheet_130 M x1 x2 x3 x4 x5 = some e) (g : (sE (fun a => WX RX12 cX12_sheet 6 (some .int) ("sheet", []) d mc ms X (px_QF Post mc ms) 57 [(0, .ref 73), (1, .int x1), (2, .int x2), (3, .int x3), (4, .int a.1), (5, .int a.2)] [] sh M L R n cu su) (fun t => WX RX12 cX12_sheet 6 (some .int) ("sheet", []) d mc ms X (px_QF Post mc ms) 136 [(0, .ref 73), (3, .int x3), (4, .int t)] [] sh M L R n cu su)) e) : WX RX12 cX12_sheet 6 (some .int) ("sheet", []) d mc ms X (px_QF Post mc ms) 130 [(0, .ref 73), (1, .int x1), (2, .int x2), (3, .int x3), (4, .int x4), (5, .int x5)] [] sh M L R n cu su := by
  unfold f_X12_sheet_130 at h
  refine wx_iinc (lv' := [(5, _), (0, _), (1, _), (2, _), (3, _), (4, _)]) dX12_sheet_130 rfl (i_1 _) (by decide) rfl ?_
  refine wx_goto (tgt := 57) dX12_sheet_133 (by decide) ?_
  obtain rfl := Option.some.inj h
  replace g := sE_l g
  exact wx_sub g (px_s rfl (px_s rfl (px_s rfl (px_s rfl (px_s rfl (px_s rfl px_0))))))
noncomputable def f_X12_sheet_128 (M : px_M) (x1 : Int32) (x2 : Int32) (x3 : Int32) (x5 : Int32) (z0 : Int32) : Option ((Int32 × Int32) ⊕ (Int32)) :=
  f_X12_sheet_130 M x1 x2 x3 z0 x5
theorem s_X12_sheet_128 {x1 : Int32} {x2 : Int32} {x3 : Int32} {x5 : Int32} {z0 : Int32} {M : px_M} {L : px_L} {R : px_R} {e : ((Int32 × Int32) ⊕ (Int32))} (hS : SR sh R) (hd : 2 ≤ d) (hcu : cu ≤ mc) (hsu : su ≤ ms) (h : f_X12_sheet_128 M x1 x2 x3 x5 z0 = some e) (g : (sE (fun a => WX RX12 cX12_sheet 6 (some .int) ("sheet", []) d mc ms X (px_QF Post mc ms) 57 [(0, .ref 73), (1, .int x1), (2, .int x2), (3, .int x3), (4, .int a.1), (5, .int a.2)] [] sh M L R n cu su) (fun t => WX RX12 cX12_sheet 6 (some .int) ("sheet", []) d mc ms X (px_QF Post mc ms) 136 [(0, .ref 73), (3, .int x3), (4, .int t)] [] sh M L R n cu su)) e) : WX RX12 cX12_sheet 6 (some .int) ("sheet", []) d mc ms X (px_QF Post mc ms) 128 [(0, .ref 73), (1, .int x1), (2, .int x2), (3, .int x3), (5, .int x5)] [.int z0] sh M L R n cu su := by
  unfold f_X12_sheet_128 at h
  refine wx_istore (lv' := [(4, _), (0, _), (1, _), (2, _), (3, _), (5, _)]) dX12_sheet_128 (by decide) rfl ?_
  exact wx_sub (s_X12_sheet_130 hS hd hcu hsu h g) (px_s rfl (px_s rfl (px_s rfl (px_s rfl (px_s rfl (px_s rfl px_0))))))
noncomputable def f_X12_sheet_57 (M : px_M) (x1 : Int32) (x2 : Int32) (x3 : Int32) (x4 : Int32) (x5 : Int32) : Option ((Int32 × Int32) ⊕ (Int32)) :=
  if (1 <<< ((M 73 59) &&& 31)) ≤ x5 then
    some (.inr x4)
  else
    bd1 (f_X12_sumOf M x5 2) fun e_72 =>
    if x1 < e_72 then
      f_X12_sheet_130 M x1 x2 x3 x4 x5
    else
      bd1 (f_X12_sumOf M x5 3) fun e_83 =>
      bd1 (f_X12_amount e_83) fun e_86 =>
      if x2 < e_86 then
        f_X12_sheet_130 M x1 x2 x3 x4 x5
      else
        bd1 (f_X12_sumOf M x5 4) fun e_97 =>
        bd1 (f_X12_amount e_97) fun e_100 =>
        if e_100 ≤ x2 then
          bd1 (f_X12_isAhead M x5 x4) fun e_115 =>
          if e_115 = 0 then
            f_X12_sheet_128 M x1 x2 x3 x5 x4
          else
            f_X12_sheet_128 M x1 x2 x3 x5 x5
        else
          f_X12_sheet_130 M x1 x2 x3 x4 x5
theorem s_X12_sheet_57b {x1 : Int32} {x2 : Int32} {x3 : Int32} {x4 : Int32} {x5 : Int32} {M : px_M} {L : px_L} {R : px_R} {e : ((Int32 × Int32) ⊕ (Int32))} (hS : SR sh R) (hd : 2 ≤ d) (hcu : cu ≤ mc) (hsu : su ≤ ms) (h : f_X12_sheet_57 M x1 x2 x3 x4 x5 = some e) (g : (sE (fun a => WX RX12 cX12_sheet 6 (some .int) ("sheet", []) d mc ms X (px_QF Post mc ms) 57 [(0, .ref 73), (1, .int x1), (2, .int x2), (3, .int x3), (4, .int a.1), (5, .int a.2)] [] sh M L R n cu su) (fun t => WX RX12 cX12_sheet 6 (some .int) ("sheet", []) d mc ms X (px_QF Post mc ms) 136 [(0, .ref 73), (3, .int x3), (4, .int t)] [] sh M L R n cu su)) e) : WX RX12 cX12_sheet 6 (some .int) ("sheet", []) d mc ms X (px_QF Post mc ms) 57 [(0, .ref 73), (1, .int x1), (2, .int x2), (3, .int x3), (4, .int x4), (5, .int x5)] [] sh M L R n cu su := by
  unfold f_X12_sheet_57 at h
  refine wx_iload dX12_sheet_57 rfl ?_
  refine wx_iconst (v := 1) dX12_sheet_59 (by decide) ?_
  refine wx_aload_n dX12_sheet_60 rfl ?_
  refine wx_getI dX12_sheet_61 fl_X12_489 (sc_73 hS) rfl ?_
  refine wx_ishl dX12_sheet_64 ?_
  refine wx_icmp_ge (tgt := 136) dX12_sheet_65 (by decide) (fun c_65 => ?_) (fun c_65 => ?_)
  · replace h := it_t h c_65
    obtain rfl := Option.some.inj h
    replace g := sE_r g
    exact wx_sub g (px_s rfl (px_s rfl (px_s rfl px_0)))
  · replace h := it_f h c_65
    refine wx_aload_n dX12_sheet_68 rfl ?_
    refine wx_iload dX12_sheet_69 rfl ?_
    refine wx_iconst (v := 2) dX12_sheet_71 (by decide) ?_
    obtain ⟨e_72, k_72, h⟩ := bd1_some h
    refine wx_cVi dX12_sheet_72 ml_X12_492 my_X12_sumOf iv_X12_sumOf (sc_73 hS) (by decide) (s_X12_sumOf (d := d - 1) hS (by omega) k_72) rfl (by omega) (by exact Nat.le_of_ble_eq_true rfl) hcu hsu ?_
    refine wx_iload_n dX12_sheet_75 rfl ?_
    refine wx_icmp_gt (tgt := 130) dX12_sheet_76 (by decide) (fun c_76 => ?_) (fun c_76 => ?_)
    · replace h := it_t h c_76
      exact wx_sub (s_X12_sheet_130 hS hd hcu hsu h g) (px_s rfl (px_s rfl (px_s rfl (px_s rfl (px_s rfl (px_s rfl px_0))))))
    · replace h := it_f h c_76
      refine wx_aload_n dX12_sheet_79 rfl ?_
      refine wx_iload dX12_sheet_80 rfl ?_
      refine wx_iconst (v := 3) dX12_sheet_82 (by decide) ?_
      obtain ⟨e_83, k_83, h⟩ := bd1_some h
      refine wx_cVi dX12_sheet_83 ml_X12_492 my_X12_sumOf iv_X12_sumOf (sc_73 hS) (by decide) (s_X12_sumOf (d := d - 1) hS (by omega) k_83) rfl (by omega) (by exact Nat.le_of_ble_eq_true rfl) hcu hsu ?_
      obtain ⟨e_86, k_86, h⟩ := bd1_some h
      refine wx_cSi dX12_sheet_86 ml_X12_237 my_X12_amount sv_X12_amount (s_X12_amount (d := d - 1) hS (by omega) k_86) rfl (by omega) (by exact Nat.le_of_ble_eq_true rfl) hcu hsu ?_
      refine wx_iload_n dX12_sheet_89 rfl ?_
      refine wx_icmp_gt (tgt := 130) dX12_sheet_90 (by decide) (fun c_90 => ?_) (fun c_90 => ?_)
      · replace h := it_t h c_90
        exact wx_sub (s_X12_sheet_130 hS hd hcu hsu h g) (px_s rfl (px_s rfl (px_s rfl (px_s rfl (px_s rfl (px_s rfl px_0))))))
      · replace h := it_f h c_90
        refine wx_aload_n dX12_sheet_93 rfl ?_
        refine wx_iload dX12_sheet_94 rfl ?_
        refine wx_iconst (v := 4) dX12_sheet_96 (by decide) ?_
        obtain ⟨e_97, k_97, h⟩ := bd1_some h
        refine wx_cVi dX12_sheet_97 ml_X12_492 my_X12_sumOf iv_X12_sumOf (sc_73 hS) (by decide) (s_X12_sumOf (d := d - 1) hS (by omega) k_97) rfl (by omega) (by exact Nat.le_of_ble_eq_true rfl) hcu hsu ?_
        obtain ⟨e_100, k_100, h⟩ := bd1_some h
        refine wx_cSi dX12_sheet_100 ml_X12_237 my_X12_amount sv_X12_amount (s_X12_amount (d := d - 1) hS (by omega) k_100) rfl (by omega) (by exact Nat.le_of_ble_eq_true rfl) hcu hsu ?_
        refine wx_iload_n dX12_sheet_103 rfl ?_
        refine wx_icmp_le (tgt := 110) dX12_sheet_104 (by decide) (fun c_104 => ?_) (fun c_104 => ?_)
        · replace h := it_t h c_104
          refine wx_aload_n dX12_sheet_110 rfl ?_
          refine wx_iload dX12_sheet_111 rfl ?_
          refine wx_iload dX12_sheet_113 rfl ?_
          obtain ⟨e_115, k_115, h⟩ := bd1_some h
          refine wx_cVi dX12_sheet_115 ml_X12_495 my_X12_isAhead iv_X12_isAhead (sc_73 hS) (by decide) (s_X12_isAhead (d := d - 1) hS (by omega) k_115) rfl (by omega) (by exact Nat.le_of_ble_eq_true rfl) hcu hsu ?_
          refine wx_if_eq (tgt := 126) dX12_sheet_118 (by decide) (fun c_118 => ?_) (fun c_118 => ?_)
          · replace h := it_t h c_118
            refine wx_iload dX12_sheet_126 rfl ?_
            exact wx_sub (s_X12_sheet_128 hS hd hcu hsu h g) (px_s rfl (px_s rfl (px_s rfl (px_s rfl (px_s rfl px_0)))))
          · replace h := it_f h c_118
            refine wx_iload dX12_sheet_121 rfl ?_
            refine wx_goto (tgt := 128) dX12_sheet_123 (by decide) ?_
            exact wx_sub (s_X12_sheet_128 hS hd hcu hsu h g) (px_s rfl (px_s rfl (px_s rfl (px_s rfl (px_s rfl px_0)))))
        · replace h := it_f h c_104
          refine wx_goto (tgt := 130) dX12_sheet_107 (by decide) ?_
          exact wx_sub (s_X12_sheet_130 hS hd hcu hsu h g) (px_s rfl (px_s rfl (px_s rfl (px_s rfl (px_s rfl (px_s rfl px_0))))))
theorem s_X12_sheet_57 {x1 : Int32} {x2 : Int32} {x3 : Int32} {x4 : Int32} {x5 : Int32} {M : px_M} {L : px_L} {R : px_R} {e : (Int32)} (hS : SR sh R) (hd : 2 ≤ d) (hcu : cu ≤ mc) (hsu : su ≤ ms) (h : lpf (fun a : Int32 × Int32 => f_X12_sheet_57 M x1 x2 x3 a.1 a.2) (x4, x5) = some e) (g : WX RX12 cX12_sheet 6 (some .int) ("sheet", []) d mc ms X (px_QF Post mc ms) 136 [(0, .ref 73), (3, .int x3), (4, .int e)] [] sh M L R n cu su) : WX RX12 cX12_sheet 6 (some .int) ("sheet", []) d mc ms X (px_QF Post mc ms) 57 [(0, .ref 73), (1, .int x1), (2, .int x2), (3, .int x3), (4, .int x4), (5, .int x5)] [] sh M L R n cu su := by
  have key := lpf_wp (P := (fun a => WX RX12 cX12_sheet 6 (some .int) ("sheet", []) d mc ms X (px_QF Post mc ms) 57 [(0, .ref 73), (1, .int x1), (2, .int x2), (3, .int x3), (4, .int a.1), (5, .int a.2)] [] sh M L R n cu su)) (G := (fun t => WX RX12 cX12_sheet 6 (some .int) ("sheet", []) d mc ms X (px_QF Post mc ms) 136 [(0, .ref 73), (3, .int x3), (4, .int t)] [] sh M L R n cu su)) (fun a r h g => s_X12_sheet_57b (x1 := x1) (x2 := x2) (x3 := x3) (x4 := a.1) (x5 := a.2) (M := M) (L := L) (R := R) hS hd hcu hsu h g) (a := (x4, x5)) h g
  exact key
noncomputable def f_X12_sheet_152 (M : px_M) (z0 : Int32) : Option (Int32 × px_M) :=
  some (z0, M)
theorem s_X12_sheet_152 {z0 : Int32} {M : px_M} {L : px_L} {R : px_R} {e : (Int32 × px_M)} (hS : SR sh R) (hd : 2 ≤ d) (hcu : cu ≤ mc) (hsu : su ≤ ms) (h : f_X12_sheet_152 M z0 = some e) (g : Post (some (.int (e.1))) sh (e.2) L R n) : WX RX12 cX12_sheet 6 (some .int) ("sheet", []) d mc ms X (px_QF Post mc ms) 152 [] [.int z0] sh M L R n cu su := by
  unfold f_X12_sheet_152 at h
  refine wx_iret dX12_sheet_152 hcu hsu ?_
  obtain rfl := Option.some.inj h
  exact g
noncomputable def f_X12_sheet_42 (M : px_M) (x1 : Int32) (x2 : Int32) (x3 : Int32) (z0 : Int32) : Option (Int32 × px_M) :=
  bd1 (f_X12_bad M z0 1) fun e_43 =>
  if e_43.1 = 0 then
    bd1 (lpf (fun a : Int32 × Int32 => f_X12_sheet_57 e_43.2 x1 x2 x3 a.1 a.2) (0, 1)) fun e_57 =>
    if x3 = 0 then
      f_X12_sheet_152 e_43.2 e_57
    else
      bd1 (f_X12_sumOf e_43.2 e_57 x3) fun e_149 =>
      f_X12_sheet_152 e_43.2 e_149
  else
    some (0, e_43.2)
theorem s_X12_sheet_42 {x1 : Int32} {x2 : Int32} {x3 : Int32} {z0 : Int32} {M : px_M} {L : px_L} {R : px_R} {e : (Int32 × px_M)} (hS : SR sh R) (hd : 2 ≤ d) (hcu : cu ≤ mc) (hsu : su ≤ ms) (h : f_X12_sheet_42 M x1 x2 x3 z0 = some e) (g : Post (some (.int (e.1))) sh (e.2) L R n) : WX RX12 cX12_sheet 6 (some .int) ("sheet", []) d mc ms X (px_QF Post mc ms) 42 [(0, .ref 73), (1, .int x1), (2, .int x2), (3, .int x3)] [.int z0, .ref 73] sh M L R n cu su := by
  unfold f_X12_sheet_42 at h
  refine wx_iconst (v := 1) dX12_sheet_42 (by decide) ?_
  obtain ⟨e_43, k_43, h⟩ := bd1_some h
  refine wx_cVi dX12_sheet_43 ml_X12_207 my_X12_bad iv_X12_bad (sc_73 hS) (by decide) (s_X12_bad (d := d - 1) hS (by omega) k_43) rfl (by omega) (by exact Nat.le_of_ble_eq_true rfl) hcu hsu ?_
  refine wx_if_eq (tgt := 51) dX12_sheet_46 (by decide) (fun c_46 => ?_) (fun c_46 => ?_)
  · replace h := it_t h c_46
    refine wx_iconst (v := 0) dX12_sheet_51 (by decide) ?_
    refine wx_istore (lv' := [(4, _), (0, _), (1, _), (2, _), (3, _)]) dX12_sheet_52 (by decide) rfl ?_
    refine wx_iconst (v := 1) dX12_sheet_54 (by decide) ?_
    refine wx_istore (lv' := [(5, _), (4, _), (0, _), (1, _), (2, _), (3, _)]) dX12_sheet_55 (by decide) rfl ?_
    obtain ⟨e_57, k_57, h⟩ := bd1_some h
    refine wx_sub (s_X12_sheet_57 hS hd hcu hsu k_57 ?_) (px_s rfl (px_s rfl (px_s rfl (px_s rfl (px_s rfl (px_s rfl px_0))))))
    refine wx_iload_n dX12_sheet_136 rfl ?_
    refine wx_if_ne (tgt := 145) dX12_sheet_137 (by decide) (fun c_137 => ?_) (fun c_137 => ?_)
    · replace h := it_f h c_137
      refine wx_aload_n dX12_sheet_145 rfl ?_
      refine wx_iload dX12_sheet_146 rfl ?_
      refine wx_iload_n dX12_sheet_148 rfl ?_
      obtain ⟨e_149, k_149, h⟩ := bd1_some h
      refine wx_cVi dX12_sheet_149 ml_X12_492 my_X12_sumOf iv_X12_sumOf (sc_73 hS) (by decide) (s_X12_sumOf (d := d - 1) hS (by omega) k_149) rfl (by omega) (by exact Nat.le_of_ble_eq_true rfl) hcu hsu ?_
      exact wx_sub (s_X12_sheet_152 hS hd hcu hsu h g) px_0
    · replace h := it_t h c_137
      refine wx_iload dX12_sheet_140 rfl ?_
      refine wx_goto (tgt := 152) dX12_sheet_142 (by decide) ?_
      exact wx_sub (s_X12_sheet_152 hS hd hcu hsu h g) px_0
  · replace h := it_f h c_46
    refine wx_iconst (v := 0) dX12_sheet_49 (by decide) ?_
    refine wx_iret dX12_sheet_50 hcu hsu ?_
    obtain rfl := Option.some.inj h
    exact g
noncomputable def f_X12_sheet_37 (M : px_M) (x1 : Int32) (x2 : Int32) (x3 : Int32) : Option (Int32 × px_M) :=
  f_X12_sheet_42 M x1 x2 x3 1
theorem s_X12_sheet_37 {x1 : Int32} {x2 : Int32} {x3 : Int32} {M : px_M} {L : px_L} {R : px_R} {e : (Int32 × px_M)} (hS : SR sh R) (hd : 2 ≤ d) (hcu : cu ≤ mc) (hsu : su ≤ ms) (h : f_X12_sheet_37 M x1 x2 x3 = some e) (g : Post (some (.int (e.1))) sh (e.2) L R n) : WX RX12 cX12_sheet 6 (some .int) ("sheet", []) d mc ms X (px_QF Post mc ms) 37 [(0, .ref 73), (1, .int x1), (2, .int x2), (3, .int x3)] [.ref 73] sh M L R n cu su := by
  unfold f_X12_sheet_37 at h
  refine wx_iconst (v := 1) dX12_sheet_37 (by decide) ?_
  refine wx_goto (tgt := 42) dX12_sheet_38 (by decide) ?_
  exact wx_sub (s_X12_sheet_42 hS hd hcu hsu h g) (px_s rfl (px_s rfl (px_s rfl (px_s rfl px_0))))
noncomputable def f_X12_sheet (M : px_M) (p1 : Int32) (p2 : Int32) (p3 : Int32) : Option (Int32 × px_M) :=
  nm (px_u M 73 0 0) fun M_2 =>
  bd1 (f_X12_in p1 0 1200) fun e_11 =>
  if e_11 = 0 then
    f_X12_sheet_37 M_2 p1 p2 p3
  else
    bd1 (f_X12_in p2 0 1000000) fun e_22 =>
    if e_22 = 0 then
      f_X12_sheet_37 M_2 p1 p2 p3
    else
      bd1 (f_X12_in p3 0 4) fun e_31 =>
      if e_31 = 0 then
        f_X12_sheet_37 M_2 p1 p2 p3
      else
        f_X12_sheet_42 M_2 p1 p2 p3 0
theorem s_X12_sheet {d : Nat} {X : Nat × (Nat → Int32)} {sh : px_Sh} {M : px_M} {L : px_L} {R : px_R} {n : Nat} {p1 : Int32} {p2 : Int32} {p3 : Int32} {e : Int32 × px_M} (hS : SR sh R) (hd : 2 ≤ d) (h : f_X12_sheet M p1 p2 p3 = some e) : MX yX12_sheet cX12_sheet 6 (some .int) d 0 0 X [.ref 73, .int p1, .int p2, .int p3] sh M L R n (px_pu (some (.int e.1)) sh e.2 L R n) := by
  refine MX.of (by decide +kernel) (by exact Nat.le_of_ble_eq_true rfl) ?_
  have hcu : 0 ≤ 0 := Nat.zero_le _
  have hsu : 0 ≤ 0 := Nat.zero_le _
  have g : px_pu (some (.int e.1)) sh e.2 L R n (some (.int e.1)) sh e.2 L R n := ⟨rfl, rfl, rfl, rfl, rfl, rfl⟩
  unfold f_X12_sheet at h
  refine wx_aload_n dX12_sheet_0 rfl ?_
  refine wx_iconst (v := 0) dX12_sheet_1 (by decide) ?_
  refine wx_putI dX12_sheet_2 fl_X12_179 (sc_73 hS) (Or.inl rfl) rfl ⟨rfl, rfl⟩ ?_
  refine wx_namM (fun M_2 q_2 => ?_)
  replace h := nm_at h q_2
  refine wx_aload_n dX12_sheet_5 rfl ?_
  refine wx_iload_n dX12_sheet_6 rfl ?_
  refine wx_iconst (v := 0) dX12_sheet_7 (by decide) ?_
  refine wx_sipush (v := 1200) dX12_sheet_8 (by decide) ?_
  obtain ⟨e_11, k_11, h⟩ := bd1_some h
  refine wx_cSi dX12_sheet_11 ml_X12_203 my_X12_in sv_X12_in (s_X12_in (d := d - 1) hS (by omega) k_11) rfl (by omega) (by exact Nat.le_of_ble_eq_true rfl) hcu hsu ?_
  refine wx_if_eq (tgt := 37) dX12_sheet_14 (by decide) (fun c_14 => ?_) (fun c_14 => ?_)
  · replace h := it_t h c_14
    exact wx_sub (s_X12_sheet_37 hS hd hcu hsu h g) (px_s rfl (px_s rfl (px_s rfl (px_s rfl px_0))))
  · replace h := it_f h c_14
    refine wx_iload_n dX12_sheet_17 rfl ?_
    refine wx_iconst (v := 0) dX12_sheet_18 (by decide) ?_
    refine wx_ldcw dX12_sheet_19 ki_X12_436 ?_
    obtain ⟨e_22, k_22, h⟩ := bd1_some h
    refine wx_cSi dX12_sheet_22 ml_X12_203 my_X12_in sv_X12_in (s_X12_in (d := d - 1) hS (by omega) k_22) rfl (by omega) (by exact Nat.le_of_ble_eq_true rfl) hcu hsu ?_
    refine wx_if_eq (tgt := 37) dX12_sheet_25 (by decide) (fun c_25 => ?_) (fun c_25 => ?_)
    · replace h := it_t h c_25
      exact wx_sub (s_X12_sheet_37 hS hd hcu hsu h g) (px_s rfl (px_s rfl (px_s rfl (px_s rfl px_0))))
    · replace h := it_f h c_25
      refine wx_iload_n dX12_sheet_28 rfl ?_
      refine wx_iconst (v := 0) dX12_sheet_29 (by decide) ?_
      refine wx_iconst (v := 4) dX12_sheet_30 (by decide) ?_
      obtain ⟨e_31, k_31, h⟩ := bd1_some h
      refine wx_cSi dX12_sheet_31 ml_X12_203 my_X12_in sv_X12_in (s_X12_in (d := d - 1) hS (by omega) k_31) rfl (by omega) (by exact Nat.le_of_ble_eq_true rfl) hcu hsu ?_
      refine wx_if_ne (tgt := 41) dX12_sheet_34 (by decide) (fun c_34 => ?_) (fun c_34 => ?_)
      · replace h := it_f h c_34
        refine wx_iconst (v := 0) dX12_sheet_41 (by decide) ?_
        exact wx_sub (s_X12_sheet_42 hS hd hcu hsu h g) (px_s rfl (px_s rfl (px_s rfl (px_s rfl px_0))))
      · replace h := it_t h c_34
        exact wx_sub (s_X12_sheet_37 hS hd hcu hsu h g) (px_s rfl (px_s rfl (px_s rfl (px_s rfl px_0))))
noncomputable def f_X12_lateBy_14 (sh : px_Sh) (M : px_M) (R : px_R) (x1 : Int32) (x2 : Int32) (x3 : Int32) (x4 : Int32) (x5 : Int32) : Option ((Int32 × px_M) ⊕ (px_M)) :=
  if x2 ≤ x5 then
    some (.inr M)
  else
    bd1 (f_X12_turnAt (M 73 25) (M 73 26)) fun e_29 =>
    nm (px_u M 73 26 e_29) fun M_32 =>
    some (.inl ((x5 + 1), M_32))
theorem s_X12_lateBy_14b {x1 : Int32} {x2 : Int32} {x3 : Int32} {x4 : Int32} {x5 : Int32} {M : px_M} {L : px_L} {R : px_R} {e : ((Int32 × px_M) ⊕ (px_M))} (hS : SR sh R) (hd : 5 ≤ d) (hcu : cu ≤ mc) (hsu : su ≤ ms) (h : f_X12_lateBy_14 sh M R x1 x2 x3 x4 x5 = some e) (g : (sE (fun a => WX RX12 cX12_lateBy 6 (some .int) ("lateBy", []) d mc ms X (px_QF Post mc ms) 14 [(0, .ref 73), (1, .int x1), (2, .int x2), (3, .int x3), (4, .int x4), (5, .int a.1)] [] sh (a.2) L R n cu su) (fun t => WX RX12 cX12_lateBy 6 (some .int) ("lateBy", []) d mc ms X (px_QF Post mc ms) 41 [(0, .ref 73), (1, .int x1), (2, .int x2), (3, .int x3), (4, .int x4)] [] sh t L R n cu su)) e) : WX RX12 cX12_lateBy 6 (some .int) ("lateBy", []) d mc ms X (px_QF Post mc ms) 14 [(0, .ref 73), (1, .int x1), (2, .int x2), (3, .int x3), (4, .int x4), (5, .int x5)] [] sh M L R n cu su := by
  unfold f_X12_lateBy_14 at h
  refine wx_iload dX12_lateBy_14 rfl ?_
  refine wx_iload_n dX12_lateBy_16 rfl ?_
  refine wx_icmp_ge (tgt := 41) dX12_lateBy_17 (by decide) (fun c_17 => ?_) (fun c_17 => ?_)
  · replace h := it_t h c_17
    obtain rfl := Option.some.inj h
    replace g := sE_r g
    exact wx_sub g (px_s rfl (px_s rfl (px_s rfl (px_s rfl (px_s rfl px_0)))))
  · replace h := it_f h c_17
    refine wx_aload_n dX12_lateBy_20 rfl ?_
    refine wx_aload_n dX12_lateBy_21 rfl ?_
    refine wx_getI dX12_lateBy_22 fl_X12_59 (sc_73 hS) rfl ?_
    refine wx_aload_n dX12_lateBy_25 rfl ?_
    refine wx_getI dX12_lateBy_26 fl_X12_304 (sc_73 hS) rfl ?_
    obtain ⟨e_29, k_29, h⟩ := bd1_some h
    refine wx_cSi dX12_lateBy_29 ml_X12_298 my_X12_turnAt sv_X12_turnAt (s_X12_turnAt (d := d - 1) hS (by omega) k_29) rfl (by omega) (by exact Nat.le_of_ble_eq_true rfl) hcu hsu ?_
    refine wx_putI dX12_lateBy_32 fl_X12_304 (sc_73 hS) (Or.inl rfl) rfl ⟨rfl, rfl⟩ ?_
    refine wx_namM (fun M_32 q_32 => ?_)
    replace h := nm_at h q_32
    refine wx_iinc (lv' := [(5, _), (0, _), (1, _), (2, _), (3, _), (4, _)]) dX12_lateBy_35 rfl (i_1 _) (by decide) rfl ?_
    refine wx_goto (tgt := 14) dX12_lateBy_38 (by decide) ?_
    obtain rfl := Option.some.inj h
    replace g := sE_l g
    exact wx_sub g (px_s rfl (px_s rfl (px_s rfl (px_s rfl (px_s rfl (px_s rfl px_0))))))
theorem s_X12_lateBy_14 {x1 : Int32} {x2 : Int32} {x3 : Int32} {x4 : Int32} {x5 : Int32} {M : px_M} {L : px_L} {R : px_R} {e : (px_M)} (hS : SR sh R) (hd : 5 ≤ d) (hcu : cu ≤ mc) (hsu : su ≤ ms) (h : lpf (fun a : Int32 × px_M => f_X12_lateBy_14 sh a.2 R x1 x2 x3 x4 a.1) (x5, M) = some e) (g : WX RX12 cX12_lateBy 6 (some .int) ("lateBy", []) d mc ms X (px_QF Post mc ms) 41 [(0, .ref 73), (1, .int x1), (2, .int x2), (3, .int x3), (4, .int x4)] [] sh e L R n cu su) : WX RX12 cX12_lateBy 6 (some .int) ("lateBy", []) d mc ms X (px_QF Post mc ms) 14 [(0, .ref 73), (1, .int x1), (2, .int x2), (3, .int x3), (4, .int x4), (5, .int x5)] [] sh M L R n cu su := by
  have key := lpf_wp (P := (fun a => WX RX12 cX12_lateBy 6 (some .int) ("lateBy", []) d mc ms X (px_QF Post mc ms) 14 [(0, .ref 73), (1, .int x1), (2, .int x2), (3, .int x3), (4, .int x4), (5, .int a.1)] [] sh (a.2) L R n cu su)) (G := (fun t => WX RX12 cX12_lateBy 6 (some .int) ("lateBy", []) d mc ms X (px_QF Post mc ms) 41 [(0, .ref 73), (1, .int x1), (2, .int x2), (3, .int x3), (4, .int x4)] [] sh t L R n cu su)) (fun a r h g => s_X12_lateBy_14b (x1 := x1) (x2 := x2) (x3 := x3) (x4 := x4) (x5 := a.1) (M := a.2) (L := L) (R := R) hS hd hcu hsu h g) (a := (x5, M)) h g
  exact key
noncomputable def f_X12_lateBy_89 (sh : px_Sh) (M : px_M) (R : px_R) (z0 : Int32) : Option (Int32 × px_M) :=
  some (z0, M)
theorem s_X12_lateBy_89 {z0 : Int32} {M : px_M} {L : px_L} {R : px_R} {e : (Int32 × px_M)} (hS : SR sh R) (hd : 5 ≤ d) (hcu : cu ≤ mc) (hsu : su ≤ ms) (h : f_X12_lateBy_89 sh M R z0 = some e) (g : Post (some (.int (e.1))) sh (e.2) L R n) : WX RX12 cX12_lateBy 6 (some .int) ("lateBy", []) d mc ms X (px_QF Post mc ms) 89 [] [.int z0] sh M L R n cu su := by
  unfold f_X12_lateBy_89 at h
  refine wx_iret dX12_lateBy_89 hcu hsu ?_
  obtain rfl := Option.some.inj h
  exact g
noncomputable def f_X12_lateBy (sh : px_Sh) (M : px_M) (R : px_R) (p1 : Int32) (p2 : Int32) : Option (Int32 × px_M) :=
  nm (M 73 26) fun v_4 =>
  nm (M 73 24) fun v_9 =>
  bd1 (lpf (fun a : Int32 × px_M => f_X12_lateBy_14 sh a.2 R p1 p2 v_4 v_9 a.1) (0, M)) fun e_14 =>
  nm ((e_14 73 24) + p2) fun v_48 =>
  nm (px_u e_14 73 24 v_48) fun M_48 =>
  bd1 (f_X12_strength M_48) fun e_54 =>
  bd1 (f_X12_findLeast sh M_48 R p1 e_54) fun e_57 =>
  nm (px_u e_57 73 26 v_4) fun M_62 =>
  nm (px_u M_62 73 24 v_9) fun M_68 =>
  if (M_68 73 34) = (-1) then
    f_X12_lateBy_89 sh M_68 R (-1)
  else
    f_X12_lateBy_89 sh M_68 R (p2 + (M_68 73 34))
theorem s_X12_lateBy {d : Nat} {X : Nat × (Nat → Int32)} {sh : px_Sh} {M : px_M} {L : px_L} {R : px_R} {n : Nat} {p1 : Int32} {p2 : Int32} {e : Int32 × px_M} (hS : SR sh R) (hd : 5 ≤ d) (h : f_X12_lateBy sh M R p1 p2 = some e) : MX yX12_lateBy cX12_lateBy 6 (some .int) d 0 0 X [.ref 73, .int p1, .int p2] sh M L R n (px_pu (some (.int e.1)) sh e.2 L R n) := by
  refine MX.of (by decide +kernel) (by exact Nat.le_of_ble_eq_true rfl) ?_
  have hcu : 0 ≤ 0 := Nat.zero_le _
  have hsu : 0 ≤ 0 := Nat.zero_le _
  have g : px_pu (some (.int e.1)) sh e.2 L R n (some (.int e.1)) sh e.2 L R n := ⟨rfl, rfl, rfl, rfl, rfl, rfl⟩
  unfold f_X12_lateBy at h
  refine wx_aload_n dX12_lateBy_0 rfl ?_
  refine wx_getI dX12_lateBy_1 fl_X12_304 (sc_73 hS) rfl ?_
  refine wx_nami (fun v_4 q_4 => ?_)
  replace h := nm_at h q_4
  refine wx_istore_n (lv' := [(3, _), (0, _), (1, _), (2, _)]) dX12_lateBy_4 (by decide) rfl ?_
  refine wx_aload_n dX12_lateBy_5 rfl ?_
  refine wx_getI dX12_lateBy_6 fl_X12_307 (sc_73 hS) rfl ?_
  refine wx_nami (fun v_9 q_9 => ?_)
  replace h := nm_at h q_9
  refine wx_istore (lv' := [(4, _), (3, _), (0, _), (1, _), (2, _)]) dX12_lateBy_9 (by decide) rfl ?_
  refine wx_iconst (v := 0) dX12_lateBy_11 (by decide) ?_
  refine wx_istore (lv' := [(5, _), (4, _), (3, _), (0, _), (1, _), (2, _)]) dX12_lateBy_12 (by decide) rfl ?_
  obtain ⟨e_14, k_14, h⟩ := bd1_some h
  refine wx_sub (s_X12_lateBy_14 hS hd hcu hsu k_14 ?_) (px_s rfl (px_s rfl (px_s rfl (px_s rfl (px_s rfl (px_s rfl px_0))))))
  refine wx_aload_n dX12_lateBy_41 rfl ?_
  refine wx_dup dX12_lateBy_42 rfl ?_
  refine wx_getI dX12_lateBy_43 fl_X12_307 (sc_73 hS) rfl ?_
  refine wx_iload_n dX12_lateBy_46 rfl ?_
  refine wx_iadd dX12_lateBy_47 ?_
  refine wx_nami (fun v_48 q_48 => ?_)
  replace h := nm_at h q_48
  refine wx_putI dX12_lateBy_48 fl_X12_307 (sc_73 hS) (Or.inl rfl) rfl ⟨rfl, rfl⟩ ?_
  refine wx_namM (fun M_48 q_48 => ?_)
  replace h := nm_at h q_48
  refine wx_aload_n dX12_lateBy_51 rfl ?_
  refine wx_iload_n dX12_lateBy_52 rfl ?_
  refine wx_aload_n dX12_lateBy_53 rfl ?_
  obtain ⟨e_54, k_54, h⟩ := bd1_some h
  refine wx_cVi dX12_lateBy_54 ml_X12_317 my_X12_strength iv_X12_strength (sc_73 hS) (by decide) (s_X12_strength (d := d - 1) hS (by omega) k_54) rfl (by omega) (by exact Nat.le_of_ble_eq_true rfl) hcu hsu ?_
  obtain ⟨e_57, k_57, h⟩ := bd1_some h
  refine wx_cVv dX12_lateBy_57 ml_X12_321 my_X12_findLeast iv_X12_findLeast (sc_73 hS) (by decide) (s_X12_findLeast (d := d - 1) hS (by omega) k_57) rfl (by omega) (by exact Nat.le_of_ble_eq_true rfl) hcu hsu ?_
  refine wx_aload_n dX12_lateBy_60 rfl ?_
  refine wx_iload_n dX12_lateBy_61 rfl ?_
  refine wx_putI dX12_lateBy_62 fl_X12_304 (sc_73 hS) (Or.inl rfl) rfl ⟨rfl, rfl⟩ ?_
  refine wx_namM (fun M_62 q_62 => ?_)
  replace h := nm_at h q_62
  refine wx_aload_n dX12_lateBy_65 rfl ?_
  refine wx_iload dX12_lateBy_66 rfl ?_
  refine wx_putI dX12_lateBy_68 fl_X12_307 (sc_73 hS) (Or.inl rfl) rfl ⟨rfl, rfl⟩ ?_
  refine wx_namM (fun M_68 q_68 => ?_)
  replace h := nm_at h q_68
  refine wx_aload_n dX12_lateBy_71 rfl ?_
  refine wx_getI dX12_lateBy_72 fl_X12_301 (sc_73 hS) rfl ?_
  refine wx_iconst (v := (-1)) dX12_lateBy_75 (by decide) ?_
  refine wx_icmp_ne (tgt := 83) dX12_lateBy_76 (by decide) (fun c_76 => ?_) (fun c_76 => ?_)
  · replace h := it_f h c_76
    refine wx_iload_n dX12_lateBy_83 rfl ?_
    refine wx_aload_n dX12_lateBy_84 rfl ?_
    refine wx_getI dX12_lateBy_85 fl_X12_301 (sc_73 hS) rfl ?_
    refine wx_iadd dX12_lateBy_88 ?_
    exact wx_sub (s_X12_lateBy_89 hS hd hcu hsu h g) px_0
  · replace h := it_t h c_76
    refine wx_iconst (v := (-1)) dX12_lateBy_79 (by decide) ?_
    refine wx_goto (tgt := 89) dX12_lateBy_80 (by decide) ?_
    exact wx_sub (s_X12_lateBy_89 hS hd hcu hsu h g) px_0
noncomputable def f_X12_late_55 (sh : px_Sh) (M : px_M) (R : px_R) : Option (Int32 × px_M) :=
  some (0, M)
theorem s_X12_late_55 {M : px_M} {L : px_L} {R : px_R} {e : (Int32 × px_M)} (hS : SR sh R) (hd : 6 ≤ d) (hcu : cu ≤ mc) (hsu : su ≤ ms) (h : f_X12_late_55 sh M R = some e) (g : Post (some (.int (e.1))) sh (e.2) L R n) : WX RX12 cX12_late 3 (some .int) ("late", []) d mc ms X (px_QF Post mc ms) 55 [] [] sh M L R n cu su := by
  unfold f_X12_late_55 at h
  refine wx_iconst (v := 0) dX12_late_55 (by decide) ?_
  refine wx_iret dX12_late_56 hcu hsu ?_
  obtain rfl := Option.some.inj h
  exact g
noncomputable def f_X12_late_48 (sh : px_Sh) (M : px_M) (R : px_R) (x1 : Int32) (x2 : Int32) (z0 : Int32) : Option (Int32 × px_M) :=
  bd1 (f_X12_bad M z0 2) fun e_49 =>
  if e_49.1 = 0 then
    bd1 (f_X12_lateBy sh e_49.2 R x1 x2) fun e_60 =>
    some (e_60.1, e_60.2)
  else
    f_X12_late_55 sh e_49.2 R
theorem s_X12_late_48 {x1 : Int32} {x2 : Int32} {z0 : Int32} {M : px_M} {L : px_L} {R : px_R} {e : (Int32 × px_M)} (hS : SR sh R) (hd : 6 ≤ d) (hcu : cu ≤ mc) (hsu : su ≤ ms) (h : f_X12_late_48 sh M R x1 x2 z0 = some e) (g : Post (some (.int (e.1))) sh (e.2) L R n) : WX RX12 cX12_late 3 (some .int) ("late", []) d mc ms X (px_QF Post mc ms) 48 [(0, .ref 73), (1, .int x1), (2, .int x2)] [.int z0, .ref 73] sh M L R n cu su := by
  unfold f_X12_late_48 at h
  refine wx_iconst (v := 2) dX12_late_48 (by decide) ?_
  obtain ⟨e_49, k_49, h⟩ := bd1_some h
  refine wx_cVi dX12_late_49 ml_X12_207 my_X12_bad iv_X12_bad (sc_73 hS) (by decide) (s_X12_bad (d := d - 1) hS (by omega) k_49) rfl (by omega) (by exact Nat.le_of_ble_eq_true rfl) hcu hsu ?_
  refine wx_if_eq (tgt := 57) dX12_late_52 (by decide) (fun c_52 => ?_) (fun c_52 => ?_)
  · replace h := it_t h c_52
    refine wx_aload_n dX12_late_57 rfl ?_
    refine wx_iload_n dX12_late_58 rfl ?_
    refine wx_iload_n dX12_late_59 rfl ?_
    obtain ⟨e_60, k_60, h⟩ := bd1_some h
    refine wx_cVi dX12_late_60 ml_X12_498 my_X12_lateBy iv_X12_lateBy (sc_73 hS) (by decide) (s_X12_lateBy (d := d - 1) hS (by omega) k_60) rfl (by omega) (by exact Nat.le_of_ble_eq_true rfl) hcu hsu ?_
    refine wx_iret dX12_late_63 hcu hsu ?_
    obtain rfl := Option.some.inj h
    exact g
  · replace h := it_f h c_52
    exact wx_sub (s_X12_late_55 hS hd hcu hsu h g) px_0
noncomputable def f_X12_late_25 (sh : px_Sh) (M : px_M) (R : px_R) (x1 : Int32) (x2 : Int32) (z0 : Int32) : Option (Int32 × px_M) :=
  bd1 (f_X12_bad M z0 1) fun e_26 =>
  if e_26.1 = 0 then
    bd1 (f_X12_in x2 0 20) fun e_37 =>
    if e_37 = 0 then
      f_X12_late_48 sh e_26.2 R x1 x2 1
    else
      f_X12_late_48 sh e_26.2 R x1 x2 0
  else
    f_X12_late_55 sh e_26.2 R
theorem s_X12_late_25 {x1 : Int32} {x2 : Int32} {z0 : Int32} {M : px_M} {L : px_L} {R : px_R} {e : (Int32 × px_M)} (hS : SR sh R) (hd : 6 ≤ d) (hcu : cu ≤ mc) (hsu : su ≤ ms) (h : f_X12_late_25 sh M R x1 x2 z0 = some e) (g : Post (some (.int (e.1))) sh (e.2) L R n) : WX RX12 cX12_late 3 (some .int) ("late", []) d mc ms X (px_QF Post mc ms) 25 [(0, .ref 73), (1, .int x1), (2, .int x2)] [.int z0, .ref 73] sh M L R n cu su := by
  unfold f_X12_late_25 at h
  refine wx_iconst (v := 1) dX12_late_25 (by decide) ?_
  obtain ⟨e_26, k_26, h⟩ := bd1_some h
  refine wx_cVi dX12_late_26 ml_X12_207 my_X12_bad iv_X12_bad (sc_73 hS) (by decide) (s_X12_bad (d := d - 1) hS (by omega) k_26) rfl (by omega) (by exact Nat.le_of_ble_eq_true rfl) hcu hsu ?_
  refine wx_if_ne (tgt := 55) dX12_late_29 (by decide) (fun c_29 => ?_) (fun c_29 => ?_)
  · replace h := it_f h c_29
    exact wx_sub (s_X12_late_55 hS hd hcu hsu h g) px_0
  · replace h := it_t h c_29
    refine wx_aload_n dX12_late_32 rfl ?_
    refine wx_iload_n dX12_late_33 rfl ?_
    refine wx_iconst (v := 0) dX12_late_34 (by decide) ?_
    refine wx_bipush (v := 20) dX12_late_35 (by decide) ?_
    obtain ⟨e_37, k_37, h⟩ := bd1_some h
    refine wx_cSi dX12_late_37 ml_X12_203 my_X12_in sv_X12_in (s_X12_in (d := d - 1) hS (by omega) k_37) rfl (by omega) (by exact Nat.le_of_ble_eq_true rfl) hcu hsu ?_
    refine wx_if_ne (tgt := 47) dX12_late_40 (by decide) (fun c_40 => ?_) (fun c_40 => ?_)
    · replace h := it_f h c_40
      refine wx_iconst (v := 0) dX12_late_47 (by decide) ?_
      exact wx_sub (s_X12_late_48 hS hd hcu hsu h g) (px_s rfl (px_s rfl (px_s rfl px_0)))
    · replace h := it_t h c_40
      refine wx_iconst (v := 1) dX12_late_43 (by decide) ?_
      refine wx_goto (tgt := 48) dX12_late_44 (by decide) ?_
      exact wx_sub (s_X12_late_48 hS hd hcu hsu h g) (px_s rfl (px_s rfl (px_s rfl px_0)))
noncomputable def f_X12_late (sh : px_Sh) (M : px_M) (R : px_R) (p1 : Int32) (p2 : Int32) : Option (Int32 × px_M) :=
  nm (px_u M 73 0 0) fun M_2 =>
  bd1 (f_X12_in p1 0 ((M_2 73 27) - 1)) fun e_14 =>
  if e_14 = 0 then
    f_X12_late_25 sh M_2 R p1 p2 1
  else
    f_X12_late_25 sh M_2 R p1 p2 0
theorem s_X12_late {d : Nat} {X : Nat × (Nat → Int32)} {sh : px_Sh} {M : px_M} {L : px_L} {R : px_R} {n : Nat} {p1 : Int32} {p2 : Int32} {e : Int32 × px_M} (hS : SR sh R) (hd : 6 ≤ d) (h : f_X12_late sh M R p1 p2 = some e) : MX yX12_late cX12_late 3 (some .int) d 0 0 X [.ref 73, .int p1, .int p2] sh M L R n (px_pu (some (.int e.1)) sh e.2 L R n) := by
  refine MX.of (by decide +kernel) (by exact Nat.le_of_ble_eq_true rfl) ?_
  have hcu : 0 ≤ 0 := Nat.zero_le _
  have hsu : 0 ≤ 0 := Nat.zero_le _
  have g : px_pu (some (.int e.1)) sh e.2 L R n (some (.int e.1)) sh e.2 L R n := ⟨rfl, rfl, rfl, rfl, rfl, rfl⟩
  unfold f_X12_late at h
  refine wx_aload_n dX12_late_0 rfl ?_
  refine wx_iconst (v := 0) dX12_late_1 (by decide) ?_
  refine wx_putI dX12_late_2 fl_X12_179 (sc_73 hS) (Or.inl rfl) rfl ⟨rfl, rfl⟩ ?_
  refine wx_namM (fun M_2 q_2 => ?_)
  replace h := nm_at h q_2
  refine wx_aload_n dX12_late_5 rfl ?_
  refine wx_iload_n dX12_late_6 rfl ?_
  refine wx_iconst (v := 0) dX12_late_7 (by decide) ?_
  refine wx_aload_n dX12_late_8 rfl ?_
  refine wx_getI dX12_late_9 fl_X12_289 (sc_73 hS) rfl ?_
  refine wx_iconst (v := 1) dX12_late_12 (by decide) ?_
  refine wx_isub dX12_late_13 ?_
  obtain ⟨e_14, k_14, h⟩ := bd1_some h
  refine wx_cSi dX12_late_14 ml_X12_203 my_X12_in sv_X12_in (s_X12_in (d := d - 1) hS (by omega) k_14) rfl (by omega) (by exact Nat.le_of_ble_eq_true rfl) hcu hsu ?_
  refine wx_if_ne (tgt := 24) dX12_late_17 (by decide) (fun c_17 => ?_) (fun c_17 => ?_)
  · replace h := it_f h c_17
    refine wx_iconst (v := 0) dX12_late_24 (by decide) ?_
    exact wx_sub (s_X12_late_25 hS hd hcu hsu h g) (px_s rfl (px_s rfl (px_s rfl px_0)))
  · replace h := it_t h c_17
    refine wx_iconst (v := 1) dX12_late_20 (by decide) ?_
    refine wx_goto (tgt := 25) dX12_late_21 (by decide) ?_
    exact wx_sub (s_X12_late_25 hS hd hcu hsu h g) (px_s rfl (px_s rfl (px_s rfl px_0)))
noncomputable def f_X12_window_83 (sh : px_Sh) (M : px_M) (R : px_R) (x1 : Int32) (x2 : Int32) (x3 : Int32) (x4 : Int32) : Option ((Int32 × Int32 × Int32 × px_M) ⊕ (Int32 × px_M)) :=
  some (.inl (x2, x3, (x4 + 1), M))
theorem s_X12_window_83 {x1 : Int32} {x2 : Int32} {x3 : Int32} {x4 : Int32} {M : px_M} {L : px_L} {R : px_R} {e : ((Int32 × Int32 × Int32 × px_M) ⊕ (Int32 × px_M))} (hS : SR sh R) (hd : 6 ≤ d) (hcu : cu ≤ mc) (hsu : su ≤ ms) (h : f_X12_window_83 sh M R x1 x2 x3 x4 = some e) (g : (sE (fun a => WX RX12 cX12_window 6 (some .int) ("window", []) d mc ms X (px_QF Post mc ms) 41 [(0, .ref 73), (1, .int x1), (2, .int a.1), (3, .int a.2.1), (4, .int a.2.2.1)] [] sh (a.2.2.2) L R n cu su) (fun t => WX RX12 cX12_window 6 (some .int) ("window", []) d mc ms X (px_QF Post mc ms) 89 [(2, .int t.1)] [] sh (t.2) L R n cu su)) e) : WX RX12 cX12_window 6 (some .int) ("window", []) d mc ms X (px_QF Post mc ms) 83 [(0, .ref 73), (1, .int x1), (2, .int x2), (3, .int x3), (4, .int x4)] [] sh M L R n cu su := by
  unfold f_X12_window_83 at h
  refine wx_iinc (lv' := [(4, _), (0, _), (1, _), (2, _), (3, _)]) dX12_window_83 rfl (i_1 _) (by decide) rfl ?_
  refine wx_goto (tgt := 41) dX12_window_86 (by decide) ?_
  obtain rfl := Option.some.inj h
  replace g := sE_l g
  exact wx_sub g (px_s rfl (px_s rfl (px_s rfl (px_s rfl (px_s rfl px_0)))))
noncomputable def f_X12_window_77 (sh : px_Sh) (M : px_M) (R : px_R) (x1 : Int32) (x4 : Int32) (x5 : Int32) : Option ((Int32 × Int32 × Int32 × px_M) ⊕ (Int32 × px_M)) :=
  f_X12_window_83 sh M R x1 x4 x5 x4
theorem s_X12_window_77 {x1 : Int32} {x4 : Int32} {x5 : Int32} {M : px_M} {L : px_L} {R : px_R} {e : ((Int32 × Int32 × Int32 × px_M) ⊕ (Int32 × px_M))} (hS : SR sh R) (hd : 6 ≤ d) (hcu : cu ≤ mc) (hsu : su ≤ ms) (h : f_X12_window_77 sh M R x1 x4 x5 = some e) (g : (sE (fun a => WX RX12 cX12_window 6 (some .int) ("window", []) d mc ms X (px_QF Post mc ms) 41 [(0, .ref 73), (1, .int x1), (2, .int a.1), (3, .int a.2.1), (4, .int a.2.2.1)] [] sh (a.2.2.2) L R n cu su) (fun t => WX RX12 cX12_window 6 (some .int) ("window", []) d mc ms X (px_QF Post mc ms) 89 [(2, .int t.1)] [] sh (t.2) L R n cu su)) e) : WX RX12 cX12_window 6 (some .int) ("window", []) d mc ms X (px_QF Post mc ms) 77 [(0, .ref 73), (1, .int x1), (4, .int x4), (5, .int x5)] [] sh M L R n cu su := by
  unfold f_X12_window_77 at h
  refine wx_iload dX12_window_77 rfl ?_
  refine wx_istore_n (lv' := [(2, _), (0, _), (1, _), (4, _), (5, _)]) dX12_window_79 (by decide) rfl ?_
  refine wx_iload dX12_window_80 rfl ?_
  refine wx_istore_n (lv' := [(3, _), (2, _), (0, _), (1, _), (4, _), (5, _)]) dX12_window_82 (by decide) rfl ?_
  exact wx_sub (s_X12_window_83 hS hd hcu hsu h g) (px_s rfl (px_s rfl (px_s rfl (px_s rfl (px_s rfl px_0)))))
noncomputable def f_X12_window_41 (sh : px_Sh) (M : px_M) (R : px_R) (x1 : Int32) (x2 : Int32) (x3 : Int32) (x4 : Int32) : Option ((Int32 × Int32 × Int32 × px_M) ⊕ (Int32 × px_M)) :=
  if 20 < x4 then
    some (.inr (x2, M))
  else
    bd1 (f_X12_lateBy sh M R x1 x4) fun e_52 =>
    if e_52.1 = (-1) then
      f_X12_window_83 sh e_52.2 R x1 x2 x3 x4
    else
      if x2 = (-1) then
        f_X12_window_77 sh e_52.2 R x1 x4 e_52.1
      else
        if e_52.1 < x3 then
          f_X12_window_77 sh e_52.2 R x1 x4 e_52.1
        else
          f_X12_window_83 sh e_52.2 R x1 x2 x3 x4
theorem s_X12_window_41b {x1 : Int32} {x2 : Int32} {x3 : Int32} {x4 : Int32} {M : px_M} {L : px_L} {R : px_R} {e : ((Int32 × Int32 × Int32 × px_M) ⊕ (Int32 × px_M))} (hS : SR sh R) (hd : 6 ≤ d) (hcu : cu ≤ mc) (hsu : su ≤ ms) (h : f_X12_window_41 sh M R x1 x2 x3 x4 = some e) (g : (sE (fun a => WX RX12 cX12_window 6 (some .int) ("window", []) d mc ms X (px_QF Post mc ms) 41 [(0, .ref 73), (1, .int x1), (2, .int a.1), (3, .int a.2.1), (4, .int a.2.2.1)] [] sh (a.2.2.2) L R n cu su) (fun t => WX RX12 cX12_window 6 (some .int) ("window", []) d mc ms X (px_QF Post mc ms) 89 [(2, .int t.1)] [] sh (t.2) L R n cu su)) e) : WX RX12 cX12_window 6 (some .int) ("window", []) d mc ms X (px_QF Post mc ms) 41 [(0, .ref 73), (1, .int x1), (2, .int x2), (3, .int x3), (4, .int x4)] [] sh M L R n cu su := by
  unfold f_X12_window_41 at h
  refine wx_iload dX12_window_41 rfl ?_
  refine wx_bipush (v := 20) dX12_window_43 (by decide) ?_
  refine wx_icmp_gt (tgt := 89) dX12_window_45 (by decide) (fun c_45 => ?_) (fun c_45 => ?_)
  · replace h := it_t h c_45
    obtain rfl := Option.some.inj h
    replace g := sE_r g
    exact wx_sub g (px_s rfl px_0)
  · replace h := it_f h c_45
    refine wx_aload_n dX12_window_48 rfl ?_
    refine wx_iload_n dX12_window_49 rfl ?_
    refine wx_iload dX12_window_50 rfl ?_
    obtain ⟨e_52, k_52, h⟩ := bd1_some h
    refine wx_cVi dX12_window_52 ml_X12_498 my_X12_lateBy iv_X12_lateBy (sc_73 hS) (by decide) (s_X12_lateBy (d := d - 1) hS (by omega) k_52) rfl (by omega) (by exact Nat.le_of_ble_eq_true rfl) hcu hsu ?_
    refine wx_istore (lv' := [(5, _), (0, _), (1, _), (2, _), (3, _), (4, _)]) dX12_window_55 (by decide) rfl ?_
    refine wx_iload dX12_window_57 rfl ?_
    refine wx_iconst (v := (-1)) dX12_window_59 (by decide) ?_
    refine wx_icmp_eq (tgt := 83) dX12_window_60 (by decide) (fun c_60 => ?_) (fun c_60 => ?_)
    · replace h := it_t h c_60
      exact wx_sub (s_X12_window_83 hS hd hcu hsu h g) (px_s rfl (px_s rfl (px_s rfl (px_s rfl (px_s rfl px_0)))))
    · replace h := it_f h c_60
      refine wx_iload_n dX12_window_63 rfl ?_
      refine wx_iconst (v := (-1)) dX12_window_64 (by decide) ?_
      refine wx_icmp_eq (tgt := 77) dX12_window_65 (by decide) (fun c_65 => ?_) (fun c_65 => ?_)
      · replace h := it_t h c_65
        exact wx_sub (s_X12_window_77 hS hd hcu hsu h g) (px_s rfl (px_s rfl (px_s rfl (px_s rfl px_0))))
      · replace h := it_f h c_65
        refine wx_iload dX12_window_68 rfl ?_
        refine wx_iload_n dX12_window_70 rfl ?_
        refine wx_icmp_lt (tgt := 77) dX12_window_71 (by decide) (fun c_71 => ?_) (fun c_71 => ?_)
        · replace h := it_t h c_71
          exact wx_sub (s_X12_window_77 hS hd hcu hsu h g) (px_s rfl (px_s rfl (px_s rfl (px_s rfl px_0))))
        · replace h := it_f h c_71
          refine wx_goto (tgt := 83) dX12_window_74 (by decide) ?_
          exact wx_sub (s_X12_window_83 hS hd hcu hsu h g) (px_s rfl (px_s rfl (px_s rfl (px_s rfl (px_s rfl px_0)))))
theorem s_X12_window_41 {x1 : Int32} {x2 : Int32} {x3 : Int32} {x4 : Int32} {M : px_M} {L : px_L} {R : px_R} {e : (Int32 × px_M)} (hS : SR sh R) (hd : 6 ≤ d) (hcu : cu ≤ mc) (hsu : su ≤ ms) (h : lpf (fun a : Int32 × Int32 × Int32 × px_M => f_X12_window_41 sh a.2.2.2 R x1 a.1 a.2.1 a.2.2.1) (x2, x3, x4, M) = some e) (g : WX RX12 cX12_window 6 (some .int) ("window", []) d mc ms X (px_QF Post mc ms) 89 [(2, .int e.1)] [] sh (e.2) L R n cu su) : WX RX12 cX12_window 6 (some .int) ("window", []) d mc ms X (px_QF Post mc ms) 41 [(0, .ref 73), (1, .int x1), (2, .int x2), (3, .int x3), (4, .int x4)] [] sh M L R n cu su := by
  have key := lpf_wp (P := (fun a => WX RX12 cX12_window 6 (some .int) ("window", []) d mc ms X (px_QF Post mc ms) 41 [(0, .ref 73), (1, .int x1), (2, .int a.1), (3, .int a.2.1), (4, .int a.2.2.1)] [] sh (a.2.2.2) L R n cu su)) (G := (fun t => WX RX12 cX12_window 6 (some .int) ("window", []) d mc ms X (px_QF Post mc ms) 89 [(2, .int t.1)] [] sh (t.2) L R n cu su)) (fun a r h g => s_X12_window_41b (x1 := x1) (x2 := a.1) (x3 := a.2.1) (x4 := a.2.2.1) (M := a.2.2.2) (L := L) (R := R) hS hd hcu hsu h g) (a := (x2, x3, x4, M)) h g
  exact key
noncomputable def f_X12_window_25 (sh : px_Sh) (M : px_M) (R : px_R) (x1 : Int32) (z0 : Int32) : Option (Int32 × px_M) :=
  bd1 (f_X12_bad M z0 1) fun e_26 =>
  if e_26.1 = 0 then
    bd1 (lpf (fun a : Int32 × Int32 × Int32 × px_M => f_X12_window_41 sh a.2.2.2 R x1 a.1 a.2.1 a.2.2.1) ((-1), 0, 0, e_26.2)) fun e_41 =>
    some (e_41.1, e_41.2)
  else
    some (0, e_26.2)
theorem s_X12_window_25 {x1 : Int32} {z0 : Int32} {M : px_M} {L : px_L} {R : px_R} {e : (Int32 × px_M)} (hS : SR sh R) (hd : 6 ≤ d) (hcu : cu ≤ mc) (hsu : su ≤ ms) (h : f_X12_window_25 sh M R x1 z0 = some e) (g : Post (some (.int (e.1))) sh (e.2) L R n) : WX RX12 cX12_window 6 (some .int) ("window", []) d mc ms X (px_QF Post mc ms) 25 [(0, .ref 73), (1, .int x1)] [.int z0, .ref 73] sh M L R n cu su := by
  unfold f_X12_window_25 at h
  refine wx_iconst (v := 1) dX12_window_25 (by decide) ?_
  obtain ⟨e_26, k_26, h⟩ := bd1_some h
  refine wx_cVi dX12_window_26 ml_X12_207 my_X12_bad iv_X12_bad (sc_73 hS) (by decide) (s_X12_bad (d := d - 1) hS (by omega) k_26) rfl (by omega) (by exact Nat.le_of_ble_eq_true rfl) hcu hsu ?_
  refine wx_if_eq (tgt := 34) dX12_window_29 (by decide) (fun c_29 => ?_) (fun c_29 => ?_)
  · replace h := it_t h c_29
    refine wx_iconst (v := (-1)) dX12_window_34 (by decide) ?_
    refine wx_istore_n (lv' := [(2, _), (0, _), (1, _)]) dX12_window_35 (by decide) rfl ?_
    refine wx_iconst (v := 0) dX12_window_36 (by decide) ?_
    refine wx_istore_n (lv' := [(3, _), (2, _), (0, _), (1, _)]) dX12_window_37 (by decide) rfl ?_
    refine wx_iconst (v := 0) dX12_window_38 (by decide) ?_
    refine wx_istore (lv' := [(4, _), (3, _), (2, _), (0, _), (1, _)]) dX12_window_39 (by decide) rfl ?_
    obtain ⟨e_41, k_41, h⟩ := bd1_some h
    refine wx_sub (s_X12_window_41 hS hd hcu hsu k_41 ?_) (px_s rfl (px_s rfl (px_s rfl (px_s rfl (px_s rfl px_0)))))
    refine wx_iload_n dX12_window_89 rfl ?_
    refine wx_iret dX12_window_90 hcu hsu ?_
    obtain rfl := Option.some.inj h
    exact g
  · replace h := it_f h c_29
    refine wx_iconst (v := 0) dX12_window_32 (by decide) ?_
    refine wx_iret dX12_window_33 hcu hsu ?_
    obtain rfl := Option.some.inj h
    exact g
noncomputable def f_X12_window (sh : px_Sh) (M : px_M) (R : px_R) (p1 : Int32) : Option (Int32 × px_M) :=
  nm (px_u M 73 0 0) fun M_2 =>
  bd1 (f_X12_in p1 0 ((M_2 73 27) - 1)) fun e_14 =>
  if e_14 = 0 then
    f_X12_window_25 sh M_2 R p1 1
  else
    f_X12_window_25 sh M_2 R p1 0
theorem s_X12_window {d : Nat} {X : Nat × (Nat → Int32)} {sh : px_Sh} {M : px_M} {L : px_L} {R : px_R} {n : Nat} {p1 : Int32} {e : Int32 × px_M} (hS : SR sh R) (hd : 6 ≤ d) (h : f_X12_window sh M R p1 = some e) : MX yX12_window cX12_window 6 (some .int) d 0 0 X [.ref 73, .int p1] sh M L R n (px_pu (some (.int e.1)) sh e.2 L R n) := by
  refine MX.of (by decide +kernel) (by exact Nat.le_of_ble_eq_true rfl) ?_
  have hcu : 0 ≤ 0 := Nat.zero_le _
  have hsu : 0 ≤ 0 := Nat.zero_le _
  have g : px_pu (some (.int e.1)) sh e.2 L R n (some (.int e.1)) sh e.2 L R n := ⟨rfl, rfl, rfl, rfl, rfl, rfl⟩
  unfold f_X12_window at h
  refine wx_aload_n dX12_window_0 rfl ?_
  refine wx_iconst (v := 0) dX12_window_1 (by decide) ?_
  refine wx_putI dX12_window_2 fl_X12_179 (sc_73 hS) (Or.inl rfl) rfl ⟨rfl, rfl⟩ ?_
  refine wx_namM (fun M_2 q_2 => ?_)
  replace h := nm_at h q_2
  refine wx_aload_n dX12_window_5 rfl ?_
  refine wx_iload_n dX12_window_6 rfl ?_
  refine wx_iconst (v := 0) dX12_window_7 (by decide) ?_
  refine wx_aload_n dX12_window_8 rfl ?_
  refine wx_getI dX12_window_9 fl_X12_289 (sc_73 hS) rfl ?_
  refine wx_iconst (v := 1) dX12_window_12 (by decide) ?_
  refine wx_isub dX12_window_13 ?_
  obtain ⟨e_14, k_14, h⟩ := bd1_some h
  refine wx_cSi dX12_window_14 ml_X12_203 my_X12_in sv_X12_in (s_X12_in (d := d - 1) hS (by omega) k_14) rfl (by omega) (by exact Nat.le_of_ble_eq_true rfl) hcu hsu ?_
  refine wx_if_ne (tgt := 24) dX12_window_17 (by decide) (fun c_17 => ?_) (fun c_17 => ?_)
  · replace h := it_f h c_17
    refine wx_iconst (v := 0) dX12_window_24 (by decide) ?_
    exact wx_sub (s_X12_window_25 hS hd hcu hsu h g) (px_s rfl (px_s rfl px_0))
  · replace h := it_t h c_17
    refine wx_iconst (v := 1) dX12_window_20 (by decide) ?_
    refine wx_goto (tgt := 25) dX12_window_21 (by decide) ?_
    exact wx_sub (s_X12_window_25 hS hd hcu hsu h g) (px_s rfl (px_s rfl px_0))
noncomputable def f_X12_count_34 (M : px_M) (x1 : Int32) (x3 : Int32) (z0 : Int32) (z1 : Int32) : Option ((Int32 × Int32) ⊕ (Int32)) :=
  nm (z1 + z0) fun v_35 =>
  some (.inl (v_35, (x3 + 1)))
theorem s_X12_count_34 {x1 : Int32} {x3 : Int32} {z0 : Int32} {z1 : Int32} {M : px_M} {L : px_L} {R : px_R} {e : ((Int32 × Int32) ⊕ (Int32))} (hS : SR sh R) (hd : 5 ≤ d) (hcu : cu ≤ mc) (hsu : su ≤ ms) (h : f_X12_count_34 M x1 x3 z0 z1 = some e) (g : (sE (fun a => WX RX12 cX12_count 4 (some .int) ("count", []) d mc ms X (px_QF Post mc ms) 9 [(0, .ref 73), (1, .int x1), (2, .int a.1), (3, .int a.2)] [] sh M L R n cu su) (fun t => WX RX12 cX12_count 4 (some .int) ("count", []) d mc ms X (px_QF Post mc ms) 42 [(0, .ref 73), (1, .int x1), (2, .int t)] [] sh M L R n cu su)) e) : WX RX12 cX12_count 4 (some .int) ("count", []) d mc ms X (px_QF Post mc ms) 34 [(0, .ref 73), (1, .int x1), (3, .int x3)] [.int z0, .int z1] sh M L R n cu su := by
  unfold f_X12_count_34 at h
  refine wx_iadd dX12_count_34 ?_
  refine wx_nami (fun v_35 q_35 => ?_)
  replace h := nm_at h q_35
  refine wx_istore_n (lv' := [(2, _), (0, _), (1, _), (3, _)]) dX12_count_35 (by decide) rfl ?_
  refine wx_iinc (lv' := [(3, _), (2, _), (0, _), (1, _)]) dX12_count_36 rfl (i_1 _) (by decide) rfl ?_
  refine wx_goto (tgt := 9) dX12_count_39 (by decide) ?_
  obtain rfl := Option.some.inj h
  replace g := sE_l g
  exact wx_sub g (px_s rfl (px_s rfl (px_s rfl (px_s rfl px_0))))
noncomputable def f_X12_count_9 (M : px_M) (x1 : Int32) (x2 : Int32) (x3 : Int32) : Option ((Int32 × Int32) ⊕ (Int32)) :=
  if (M 73 1) ≤ (x3 + 1) then
    some (.inr x2)
  else
    ok (ix x3 8) <|
    if (M 78 x3.toNatClampNeg) = 0 then
      f_X12_count_34 M x1 x3 0 x2
    else
      f_X12_count_34 M x1 x3 1 x2
theorem s_X12_count_9b {x1 : Int32} {x2 : Int32} {x3 : Int32} {M : px_M} {L : px_L} {R : px_R} {e : ((Int32 × Int32) ⊕ (Int32))} (hS : SR sh R) (hd : 5 ≤ d) (hcu : cu ≤ mc) (hsu : su ≤ ms) (h : f_X12_count_9 M x1 x2 x3 = some e) (g : (sE (fun a => WX RX12 cX12_count 4 (some .int) ("count", []) d mc ms X (px_QF Post mc ms) 9 [(0, .ref 73), (1, .int x1), (2, .int a.1), (3, .int a.2)] [] sh M L R n cu su) (fun t => WX RX12 cX12_count 4 (some .int) ("count", []) d mc ms X (px_QF Post mc ms) 42 [(0, .ref 73), (1, .int x1), (2, .int t)] [] sh M L R n cu su)) e) : WX RX12 cX12_count 4 (some .int) ("count", []) d mc ms X (px_QF Post mc ms) 9 [(0, .ref 73), (1, .int x1), (2, .int x2), (3, .int x3)] [] sh M L R n cu su := by
  unfold f_X12_count_9 at h
  refine wx_iload_n dX12_count_9 rfl ?_
  refine wx_iconst (v := 1) dX12_count_10 (by decide) ?_
  refine wx_iadd dX12_count_11 ?_
  refine wx_aload_n dX12_count_12 rfl ?_
  refine wx_getI dX12_count_13 fl_X12_182 (sc_73 hS) rfl ?_
  refine wx_icmp_ge (tgt := 42) dX12_count_16 (by decide) (fun c_16 => ?_) (fun c_16 => ?_)
  · replace h := it_t h c_16
    obtain rfl := Option.some.inj h
    replace g := sE_r g
    exact wx_sub g (px_s rfl (px_s rfl (px_s rfl px_0)))
  · replace h := it_f h c_16
    refine wx_iload_n dX12_count_19 rfl ?_
    refine wx_aload_n dX12_count_20 rfl ?_
    refine wx_getR dX12_count_21 fl_X12_22 (sc_73 hS) rfl (rr_73_8 hS) ?_
    refine wx_iload_n dX12_count_24 rfl ?_
    obtain ⟨w_25, h⟩ := ok_some h
    refine wx_bald dX12_count_25 (sc_78 hS) (ix_in w_25) ?_
    refine wx_if_eq (tgt := 33) dX12_count_26 (by decide) (fun c_26 => ?_) (fun c_26 => ?_)
    · replace h := it_t h c_26
      refine wx_iconst (v := 0) dX12_count_33 (by decide) ?_
      exact wx_sub (s_X12_count_34 hS hd hcu hsu h g) (px_s rfl (px_s rfl (px_s rfl px_0)))
    · replace h := it_f h c_26
      refine wx_iconst (v := 1) dX12_count_29 (by decide) ?_
      refine wx_goto (tgt := 34) dX12_count_30 (by decide) ?_
      exact wx_sub (s_X12_count_34 hS hd hcu hsu h g) (px_s rfl (px_s rfl (px_s rfl px_0)))
theorem s_X12_count_9 {x1 : Int32} {x2 : Int32} {x3 : Int32} {M : px_M} {L : px_L} {R : px_R} {e : (Int32)} (hS : SR sh R) (hd : 5 ≤ d) (hcu : cu ≤ mc) (hsu : su ≤ ms) (h : lpf (fun a : Int32 × Int32 => f_X12_count_9 M x1 a.1 a.2) (x2, x3) = some e) (g : WX RX12 cX12_count 4 (some .int) ("count", []) d mc ms X (px_QF Post mc ms) 42 [(0, .ref 73), (1, .int x1), (2, .int e)] [] sh M L R n cu su) : WX RX12 cX12_count 4 (some .int) ("count", []) d mc ms X (px_QF Post mc ms) 9 [(0, .ref 73), (1, .int x1), (2, .int x2), (3, .int x3)] [] sh M L R n cu su := by
  have key := lpf_wp (P := (fun a => WX RX12 cX12_count 4 (some .int) ("count", []) d mc ms X (px_QF Post mc ms) 9 [(0, .ref 73), (1, .int x1), (2, .int a.1), (3, .int a.2)] [] sh M L R n cu su)) (G := (fun t => WX RX12 cX12_count 4 (some .int) ("count", []) d mc ms X (px_QF Post mc ms) 42 [(0, .ref 73), (1, .int x1), (2, .int t)] [] sh M L R n cu su)) (fun a r h g => s_X12_count_9b (x1 := x1) (x2 := a.1) (x3 := a.2) (M := M) (L := L) (R := R) hS hd hcu hsu h g) (a := (x2, x3)) h g
  exact key
noncomputable def f_X12_count_221 (M : px_M) (z0 : Int32) : Option (Int32 × px_M) :=
  some (z0, M)
theorem s_X12_count_221 {z0 : Int32} {M : px_M} {L : px_L} {R : px_R} {e : (Int32 × px_M)} (hS : SR sh R) (hd : 5 ≤ d) (hcu : cu ≤ mc) (hsu : su ≤ ms) (h : f_X12_count_221 M z0 = some e) (g : Post (some (.int (e.1))) sh (e.2) L R n) : WX RX12 cX12_count 4 (some .int) ("count", []) d mc ms X (px_QF Post mc ms) 221 [] [.int z0] sh M L R n cu su := by
  unfold f_X12_count_221 at h
  refine wx_iret dX12_count_221 hcu hsu ?_
  obtain rfl := Option.some.inj h
  exact g
noncomputable def f_X12_count_220 (M : px_M) : Option (Int32 × px_M) :=
  f_X12_count_221 M 0
theorem s_X12_count_220 {M : px_M} {L : px_L} {R : px_R} {e : (Int32 × px_M)} (hS : SR sh R) (hd : 5 ≤ d) (hcu : cu ≤ mc) (hsu : su ≤ ms) (h : f_X12_count_220 M = some e) (g : Post (some (.int (e.1))) sh (e.2) L R n) : WX RX12 cX12_count 4 (some .int) ("count", []) d mc ms X (px_QF Post mc ms) 220 [] [] sh M L R n cu su := by
  unfold f_X12_count_220 at h
  refine wx_iconst (v := 0) dX12_count_220 (by decide) ?_
  exact wx_sub (s_X12_count_221 hS hd hcu hsu h g) px_0
noncomputable def f_X12_count (M : px_M) (p1 : Int32) : Option (Int32 × px_M) :=
  nm (px_u M 73 0 0) fun M_2 =>
  bd1 (lpf (fun a : Int32 × Int32 => f_X12_count_9 M_2 p1 a.1 a.2) (0, 0)) fun e_9 =>
  if p1 = 0 then
    some ((M_2 73 24), M_2)
  else if p1 = 1 then
    some ((M_2 73 25), M_2)
  else if p1 = 2 then
    some ((M_2 73 26), M_2)
  else if p1 = 3 then
    some ((M_2 73 9), M_2)
  else if p1 = 4 then
    some ((M_2 73 10), M_2)
  else if p1 = 5 then
    some ((M_2 73 27), M_2)
  else if p1 = 6 then
    some ((M_2 73 36), M_2)
  else if p1 = 7 then
    bd1 (f_X12_strength M_2) fun e_164 =>
    some (e_164, M_2)
  else if p1 = 8 then
    bd1 (f_X12_strength M_2) fun e_173 =>
    bd1 (f_X12_stepsAt (M_2 73 25) e_173) fun e_176 =>
    some (e_176, M_2)
  else if p1 = 9 then
    some ((M_2 73 35), M_2)
  else if p1 = 10 then
    if (M_2 73 28) = (-1) then
      f_X12_count_220 M_2
    else
      bd1 (f_X12_isMet M_2 (M_2 73 28) (M_2 73 25) (M_2 73 26) (M_2 73 24)) fun e_210 =>
      if e_210 = 0 then
        f_X12_count_220 M_2
      else
        f_X12_count_221 M_2 1
  else if p1 = 11 then
    some ((M_2 73 48), M_2)
  else if p1 = 12 then
    some ((M_2 73 49), M_2)
  else if p1 = 13 then
    some ((M_2 73 41), M_2)
  else if p1 = 14 then
    some (e_9, M_2)
  else if p1 = 15 then
    some ((M_2 73 57), M_2)
  else if p1 = 16 then
    some ((M_2 73 58), M_2)
  else if p1 = 17 then
    some ((M_2 73 59), M_2)
  else some ((-1), M_2)
theorem s_X12_count {d : Nat} {X : Nat × (Nat → Int32)} {sh : px_Sh} {M : px_M} {L : px_L} {R : px_R} {n : Nat} {p1 : Int32} {e : Int32 × px_M} (hS : SR sh R) (hd : 5 ≤ d) (h : f_X12_count M p1 = some e) : MX yX12_count cX12_count 4 (some .int) d 0 0 X [.ref 73, .int p1] sh M L R n (px_pu (some (.int e.1)) sh e.2 L R n) := by
  refine MX.of (by decide +kernel) (by exact Nat.le_of_ble_eq_true rfl) ?_
  have hcu : 0 ≤ 0 := Nat.zero_le _
  have hsu : 0 ≤ 0 := Nat.zero_le _
  have g : px_pu (some (.int e.1)) sh e.2 L R n (some (.int e.1)) sh e.2 L R n := ⟨rfl, rfl, rfl, rfl, rfl, rfl⟩
  unfold f_X12_count at h
  refine wx_aload_n dX12_count_0 rfl ?_
  refine wx_iconst (v := 0) dX12_count_1 (by decide) ?_
  refine wx_putI dX12_count_2 fl_X12_179 (sc_73 hS) (Or.inl rfl) rfl ⟨rfl, rfl⟩ ?_
  refine wx_namM (fun M_2 q_2 => ?_)
  replace h := nm_at h q_2
  refine wx_iconst (v := 0) dX12_count_5 (by decide) ?_
  refine wx_istore_n (lv' := [(2, _), (0, _), (1, _)]) dX12_count_6 (by decide) rfl ?_
  refine wx_iconst (v := 0) dX12_count_7 (by decide) ?_
  refine wx_istore_n (lv' := [(3, _), (2, _), (0, _), (1, _)]) dX12_count_8 (by decide) rfl ?_
  obtain ⟨e_9, k_9, h⟩ := bd1_some h
  refine wx_sub (s_X12_count_9 hS hd hcu hsu k_9 ?_) (px_s rfl (px_s rfl (px_s rfl (px_s rfl px_0))))
  refine wx_iload_n dX12_count_42 rfl ?_
  by_cases c_43_0 : p1 = 0
  · replace h := it_t h c_43_0
    refine wx_ts (tgt := 128) dX12_count_43 c_43_0 (by decide) (by decide) rfl (by decide) ?_
    refine wx_aload_n dX12_count_128 rfl ?_
    refine wx_getI dX12_count_129 fl_X12_307 (sc_73 hS) rfl ?_
    refine wx_iret dX12_count_132 hcu hsu ?_
    obtain rfl := Option.some.inj h
    exact g
  replace h := it_f h c_43_0
  by_cases c_43_1 : p1 = 1
  · replace h := it_t h c_43_1
    refine wx_ts (tgt := 133) dX12_count_43 c_43_1 (by decide) (by decide) rfl (by decide) ?_
    refine wx_aload_n dX12_count_133 rfl ?_
    refine wx_getI dX12_count_134 fl_X12_59 (sc_73 hS) rfl ?_
    refine wx_iret dX12_count_137 hcu hsu ?_
    obtain rfl := Option.some.inj h
    exact g
  replace h := it_f h c_43_1
  by_cases c_43_2 : p1 = 2
  · replace h := it_t h c_43_2
    refine wx_ts (tgt := 138) dX12_count_43 c_43_2 (by decide) (by decide) rfl (by decide) ?_
    refine wx_aload_n dX12_count_138 rfl ?_
    refine wx_getI dX12_count_139 fl_X12_304 (sc_73 hS) rfl ?_
    refine wx_iret dX12_count_142 hcu hsu ?_
    obtain rfl := Option.some.inj h
    exact g
  replace h := it_f h c_43_2
  by_cases c_43_3 : p1 = 3
  · replace h := it_t h c_43_3
    refine wx_ts (tgt := 143) dX12_count_43 c_43_3 (by decide) (by decide) rfl (by decide) ?_
    refine wx_aload_n dX12_count_143 rfl ?_
    refine wx_getI dX12_count_144 fl_X12_222 (sc_73 hS) rfl ?_
    refine wx_iret dX12_count_147 hcu hsu ?_
    obtain rfl := Option.some.inj h
    exact g
  replace h := it_f h c_43_3
  by_cases c_43_4 : p1 = 4
  · replace h := it_t h c_43_4
    refine wx_ts (tgt := 148) dX12_count_43 c_43_4 (by decide) (by decide) rfl (by decide) ?_
    refine wx_aload_n dX12_count_148 rfl ?_
    refine wx_getI dX12_count_149 fl_X12_225 (sc_73 hS) rfl ?_
    refine wx_iret dX12_count_152 hcu hsu ?_
    obtain rfl := Option.some.inj h
    exact g
  replace h := it_f h c_43_4
  by_cases c_43_5 : p1 = 5
  · replace h := it_t h c_43_5
    refine wx_ts (tgt := 153) dX12_count_43 c_43_5 (by decide) (by decide) rfl (by decide) ?_
    refine wx_aload_n dX12_count_153 rfl ?_
    refine wx_getI dX12_count_154 fl_X12_289 (sc_73 hS) rfl ?_
    refine wx_iret dX12_count_157 hcu hsu ?_
    obtain rfl := Option.some.inj h
    exact g
  replace h := it_f h c_43_5
  by_cases c_43_6 : p1 = 6
  · replace h := it_t h c_43_6
    refine wx_ts (tgt := 158) dX12_count_43 c_43_6 (by decide) (by decide) rfl (by decide) ?_
    refine wx_aload_n dX12_count_158 rfl ?_
    refine wx_getI dX12_count_159 fl_X12_421 (sc_73 hS) rfl ?_
    refine wx_iret dX12_count_162 hcu hsu ?_
    obtain rfl := Option.some.inj h
    exact g
  replace h := it_f h c_43_6
  by_cases c_43_7 : p1 = 7
  · replace h := it_t h c_43_7
    refine wx_ts (tgt := 163) dX12_count_43 c_43_7 (by decide) (by decide) rfl (by decide) ?_
    refine wx_aload_n dX12_count_163 rfl ?_
    obtain ⟨e_164, k_164, h⟩ := bd1_some h
    refine wx_cVi dX12_count_164 ml_X12_317 my_X12_strength iv_X12_strength (sc_73 hS) (by decide) (s_X12_strength (d := d - 1) hS (by omega) k_164) rfl (by omega) (by exact Nat.le_of_ble_eq_true rfl) hcu hsu ?_
    refine wx_iret dX12_count_167 hcu hsu ?_
    obtain rfl := Option.some.inj h
    exact g
  replace h := it_f h c_43_7
  by_cases c_43_8 : p1 = 8
  · replace h := it_t h c_43_8
    refine wx_ts (tgt := 168) dX12_count_43 c_43_8 (by decide) (by decide) rfl (by decide) ?_
    refine wx_aload_n dX12_count_168 rfl ?_
    refine wx_getI dX12_count_169 fl_X12_59 (sc_73 hS) rfl ?_
    refine wx_aload_n dX12_count_172 rfl ?_
    obtain ⟨e_173, k_173, h⟩ := bd1_some h
    refine wx_cVi dX12_count_173 ml_X12_317 my_X12_strength iv_X12_strength (sc_73 hS) (by decide) (s_X12_strength (d := d - 1) hS (by omega) k_173) rfl (by omega) (by exact Nat.le_of_ble_eq_true rfl) hcu hsu ?_
    obtain ⟨e_176, k_176, h⟩ := bd1_some h
    refine wx_cSi dX12_count_176 ml_X12_295 my_X12_stepsAt sv_X12_stepsAt (s_X12_stepsAt (d := d - 1) hS (by omega) k_176) rfl (by omega) (by exact Nat.le_of_ble_eq_true rfl) hcu hsu ?_
    refine wx_iret dX12_count_179 hcu hsu ?_
    obtain rfl := Option.some.inj h
    exact g
  replace h := it_f h c_43_8
  by_cases c_43_9 : p1 = 9
  · replace h := it_t h c_43_9
    refine wx_ts (tgt := 180) dX12_count_43 c_43_9 (by decide) (by decide) rfl (by decide) ?_
    refine wx_aload_n dX12_count_180 rfl ?_
    refine wx_getI dX12_count_181 fl_X12_324 (sc_73 hS) rfl ?_
    refine wx_iret dX12_count_184 hcu hsu ?_
    obtain rfl := Option.some.inj h
    exact g
  replace h := it_f h c_43_9
  by_cases c_43_10 : p1 = 10
  · replace h := it_t h c_43_10
    refine wx_ts (tgt := 185) dX12_count_43 c_43_10 (by decide) (by decide) rfl (by decide) ?_
    refine wx_aload_n dX12_count_185 rfl ?_
    refine wx_getI dX12_count_186 fl_X12_63 (sc_73 hS) rfl ?_
    refine wx_iconst (v := (-1)) dX12_count_189 (by decide) ?_
    refine wx_icmp_eq (tgt := 220) dX12_count_190 (by decide) (fun c_190 => ?_) (fun c_190 => ?_)
    · replace h := it_t h c_190
      exact wx_sub (s_X12_count_220 hS hd hcu hsu h g) px_0
    · replace h := it_f h c_190
      refine wx_aload_n dX12_count_193 rfl ?_
      refine wx_aload_n dX12_count_194 rfl ?_
      refine wx_getI dX12_count_195 fl_X12_63 (sc_73 hS) rfl ?_
      refine wx_aload_n dX12_count_198 rfl ?_
      refine wx_getI dX12_count_199 fl_X12_59 (sc_73 hS) rfl ?_
      refine wx_aload_n dX12_count_202 rfl ?_
      refine wx_getI dX12_count_203 fl_X12_304 (sc_73 hS) rfl ?_
      refine wx_aload_n dX12_count_206 rfl ?_
      refine wx_getI dX12_count_207 fl_X12_307 (sc_73 hS) rfl ?_
      obtain ⟨e_210, k_210, h⟩ := bd1_some h
      refine wx_cVi dX12_count_210 ml_X12_310 my_X12_isMet iv_X12_isMet (sc_73 hS) (by decide) (s_X12_isMet (d := d - 1) hS (by omega) k_210) rfl (by omega) (by exact Nat.le_of_ble_eq_true rfl) hcu hsu ?_
      refine wx_if_eq (tgt := 220) dX12_count_213 (by decide) (fun c_213 => ?_) (fun c_213 => ?_)
      · replace h := it_t h c_213
        exact wx_sub (s_X12_count_220 hS hd hcu hsu h g) px_0
      · replace h := it_f h c_213
        refine wx_iconst (v := 1) dX12_count_216 (by decide) ?_
        refine wx_goto (tgt := 221) dX12_count_217 (by decide) ?_
        exact wx_sub (s_X12_count_221 hS hd hcu hsu h g) px_0
  replace h := it_f h c_43_10
  by_cases c_43_11 : p1 = 11
  · replace h := it_t h c_43_11
    refine wx_ts (tgt := 222) dX12_count_43 c_43_11 (by decide) (by decide) rfl (by decide) ?_
    refine wx_aload_n dX12_count_222 rfl ?_
    refine wx_getI dX12_count_223 fl_X12_433 (sc_73 hS) rfl ?_
    refine wx_iret dX12_count_226 hcu hsu ?_
    obtain rfl := Option.some.inj h
    exact g
  replace h := it_f h c_43_11
  by_cases c_43_12 : p1 = 12
  · replace h := it_t h c_43_12
    refine wx_ts (tgt := 227) dX12_count_43 c_43_12 (by decide) (by decide) rfl (by decide) ?_
    refine wx_aload_n dX12_count_227 rfl ?_
    refine wx_getI dX12_count_228 fl_X12_437 (sc_73 hS) rfl ?_
    refine wx_iret dX12_count_231 hcu hsu ?_
    obtain rfl := Option.some.inj h
    exact g
  replace h := it_f h c_43_12
  by_cases c_43_13 : p1 = 13
  · replace h := it_t h c_43_13
    refine wx_ts (tgt := 232) dX12_count_43 c_43_13 (by decide) (by decide) rfl (by decide) ?_
    refine wx_aload_n dX12_count_232 rfl ?_
    refine wx_getI dX12_count_233 fl_X12_427 (sc_73 hS) rfl ?_
    refine wx_iret dX12_count_236 hcu hsu ?_
    obtain rfl := Option.some.inj h
    exact g
  replace h := it_f h c_43_13
  by_cases c_43_14 : p1 = 14
  · replace h := it_t h c_43_14
    refine wx_ts (tgt := 237) dX12_count_43 c_43_14 (by decide) (by decide) rfl (by decide) ?_
    refine wx_iload_n dX12_count_237 rfl ?_
    refine wx_iret dX12_count_238 hcu hsu ?_
    obtain rfl := Option.some.inj h
    exact g
  replace h := it_f h c_43_14
  by_cases c_43_15 : p1 = 15
  · replace h := it_t h c_43_15
    refine wx_ts (tgt := 239) dX12_count_43 c_43_15 (by decide) (by decide) rfl (by decide) ?_
    refine wx_aload_n dX12_count_239 rfl ?_
    refine wx_getI dX12_count_240 fl_X12_449 (sc_73 hS) rfl ?_
    refine wx_iret dX12_count_243 hcu hsu ?_
    obtain rfl := Option.some.inj h
    exact g
  replace h := it_f h c_43_15
  by_cases c_43_16 : p1 = 16
  · replace h := it_t h c_43_16
    refine wx_ts (tgt := 244) dX12_count_43 c_43_16 (by decide) (by decide) rfl (by decide) ?_
    refine wx_aload_n dX12_count_244 rfl ?_
    refine wx_getI dX12_count_245 fl_X12_452 (sc_73 hS) rfl ?_
    refine wx_iret dX12_count_248 hcu hsu ?_
    obtain rfl := Option.some.inj h
    exact g
  replace h := it_f h c_43_16
  by_cases c_43_17 : p1 = 17
  · replace h := it_t h c_43_17
    refine wx_ts (tgt := 249) dX12_count_43 c_43_17 (by decide) (by decide) rfl (by decide) ?_
    refine wx_aload_n dX12_count_249 rfl ?_
    refine wx_getI dX12_count_250 fl_X12_489 (sc_73 hS) rfl ?_
    refine wx_iret dX12_count_253 hcu hsu ?_
    obtain rfl := Option.some.inj h
    exact g
  replace h := it_f h c_43_17
  have n_43_0 := ts_ne (j := 0) c_43_0 (by decide)
  have n_43_1 := ts_ne (j := 1) c_43_1 (by decide)
  have n_43_2 := ts_ne (j := 2) c_43_2 (by decide)
  have n_43_3 := ts_ne (j := 3) c_43_3 (by decide)
  have n_43_4 := ts_ne (j := 4) c_43_4 (by decide)
  have n_43_5 := ts_ne (j := 5) c_43_5 (by decide)
  have n_43_6 := ts_ne (j := 6) c_43_6 (by decide)
  have n_43_7 := ts_ne (j := 7) c_43_7 (by decide)
  have n_43_8 := ts_ne (j := 8) c_43_8 (by decide)
  have n_43_9 := ts_ne (j := 9) c_43_9 (by decide)
  have n_43_10 := ts_ne (j := 10) c_43_10 (by decide)
  have n_43_11 := ts_ne (j := 11) c_43_11 (by decide)
  have n_43_12 := ts_ne (j := 12) c_43_12 (by decide)
  have n_43_13 := ts_ne (j := 13) c_43_13 (by decide)
  have n_43_14 := ts_ne (j := 14) c_43_14 (by decide)
  have n_43_15 := ts_ne (j := 15) c_43_15 (by decide)
  have n_43_16 := ts_ne (j := 16) c_43_16 (by decide)
  have n_43_17 := ts_ne (j := 17) c_43_17 (by decide)
  refine wx_tsOut (tgt := 254) dX12_count_43 (by omega) (by decide) ?_
  refine wx_iconst (v := (-1)) dX12_count_254 (by decide) ?_
  refine wx_iret dX12_count_255 hcu hsu ?_
  obtain rfl := Option.some.inj h
  exact g
end LIFT
