/-! Folding -/
section LIFT
variable {d mc ms : Nat} {X : Nat × (Nat → Int32)} {Post : px_Post} {sh : px_Sh} {n cu su : Nat}
noncomputable def f_X2_takeTrial_9 (M : px_M) (x1 : Int32) : Option ((Int32 × px_M) ⊕ (px_M)) :=
  if (M 1 0) ≤ x1 then
    some (.inr M)
  else
    ok (ix x1 8) <|
    nm (M 4 x1.toNatClampNeg) fun v_28 =>
    ok (ix x1 8) <|
    nm (px_u M 2 x1.toNatClampNeg v_28) fun M_28 =>
    ok (ix x1 8) <|
    ok (ix (M_28 4 x1.toNatClampNeg) 8) <|
    nm (px_u M_28 3 (M_28 4 x1.toNatClampNeg).toNatClampNeg x1) fun M_40 =>
    some (.inl ((x1 + 1), M_40))
theorem s_X2_takeTrial_9b {x1 : Int32} {M : px_M} {L : px_L} {R : px_R} {e : ((Int32 × px_M) ⊕ (px_M))} (hS : SR sh R) (hd : 0 ≤ d) (hcu : cu ≤ mc) (hsu : su ≤ ms) (h : f_X2_takeTrial_9 M x1 = some e) (g : (sE (fun a => WX RX2 cX2_takeTrial 2 none ("takeTrial", []) d mc ms X (px_QF Post mc ms) 9 [(0, .ref 1), (1, .int a.1)] [] sh (a.2) L R n cu su) (fun t => WX RX2 cX2_takeTrial 2 none ("takeTrial", []) d mc ms X (px_QF Post mc ms) 47 [(0, .ref 1)] [] sh t L R n cu su)) e) : WX RX2 cX2_takeTrial 2 none ("takeTrial", []) d mc ms X (px_QF Post mc ms) 9 [(0, .ref 1), (1, .int x1)] [] sh M L R n cu su := by
  unfold f_X2_takeTrial_9 at h
  refine wx_iload_n dX2_takeTrial_9 rfl ?_
  refine wx_aload_n dX2_takeTrial_10 rfl ?_
  refine wx_getI dX2_takeTrial_11 fl_X2_24 (sc_1 hS) rfl ?_
  refine wx_icmp_ge (tgt := 47) dX2_takeTrial_14 (by decide) (fun c_14 => ?_) (fun c_14 => ?_)
  · replace h := it_t h c_14
    obtain rfl := Option.some.inj h
    replace g := sE_r g
    exact wx_sub g (px_s rfl px_0)
  · replace h := it_f h c_14
    refine wx_aload_n dX2_takeTrial_17 rfl ?_
    refine wx_getR dX2_takeTrial_18 fl_X2_11 (sc_1 hS) rfl (rr_1_4 hS) ?_
    refine wx_iload_n dX2_takeTrial_21 rfl ?_
    refine wx_aload_n dX2_takeTrial_22 rfl ?_
    refine wx_getR dX2_takeTrial_23 fl_X2_18 (sc_1 hS) rfl (rr_1_6 hS) ?_
    refine wx_iload_n dX2_takeTrial_26 rfl ?_
    obtain ⟨w_27, h⟩ := ok_some h
    refine wx_iald dX2_takeTrial_27 (sc_4 hS) (ix_in w_27) ?_
    refine wx_nami (fun v_28 q_28 => ?_)
    replace h := nm_at h q_28
    obtain ⟨w_28, h⟩ := ok_some h
    refine wx_iast dX2_takeTrial_28 (sc_2 hS) (ix_in w_28) ?_
    refine wx_namM (fun M_28 q_28 => ?_)
    replace h := nm_at h q_28
    refine wx_aload_n dX2_takeTrial_29 rfl ?_
    refine wx_getR dX2_takeTrial_30 fl_X2_15 (sc_1 hS) rfl (rr_1_5 hS) ?_
    refine wx_aload_n dX2_takeTrial_33 rfl ?_
    refine wx_getR dX2_takeTrial_34 fl_X2_18 (sc_1 hS) rfl (rr_1_6 hS) ?_
    refine wx_iload_n dX2_takeTrial_37 rfl ?_
    obtain ⟨w_38, h⟩ := ok_some h
    refine wx_iald dX2_takeTrial_38 (sc_4 hS) (ix_in w_38) ?_
    refine wx_iload_n dX2_takeTrial_39 rfl ?_
    obtain ⟨w_40, h⟩ := ok_some h
    refine wx_iast dX2_takeTrial_40 (sc_3 hS) (ix_in w_40) ?_
    refine wx_namM (fun M_40 q_40 => ?_)
    replace h := nm_at h q_40
    refine wx_iinc (lv' := [(1, _), (0, _)]) dX2_takeTrial_41 rfl (i_1 _) (by decide) rfl ?_
    refine wx_goto (tgt := 9) dX2_takeTrial_44 (by decide) ?_
    obtain rfl := Option.some.inj h
    replace g := sE_l g
    exact wx_sub g (px_s rfl (px_s rfl px_0))
theorem s_X2_takeTrial_9 {x1 : Int32} {M : px_M} {L : px_L} {R : px_R} {e : (px_M)} (hS : SR sh R) (hd : 0 ≤ d) (hcu : cu ≤ mc) (hsu : su ≤ ms) (h : lpf (fun a : Int32 × px_M => f_X2_takeTrial_9 a.2 a.1) (x1, M) = some e) (g : WX RX2 cX2_takeTrial 2 none ("takeTrial", []) d mc ms X (px_QF Post mc ms) 47 [(0, .ref 1)] [] sh e L R n cu su) : WX RX2 cX2_takeTrial 2 none ("takeTrial", []) d mc ms X (px_QF Post mc ms) 9 [(0, .ref 1), (1, .int x1)] [] sh M L R n cu su := by
  have key := lpf_wp (P := (fun a => WX RX2 cX2_takeTrial 2 none ("takeTrial", []) d mc ms X (px_QF Post mc ms) 9 [(0, .ref 1), (1, .int a.1)] [] sh (a.2) L R n cu su)) (G := (fun t => WX RX2 cX2_takeTrial 2 none ("takeTrial", []) d mc ms X (px_QF Post mc ms) 47 [(0, .ref 1)] [] sh t L R n cu su)) (fun a r h g => s_X2_takeTrial_9b (x1 := a.1) (M := a.2) (L := L) (R := R) hS hd hcu hsu h g) (a := (x1, M)) h g
  exact key
noncomputable def f_X2_takeTrial_47 (M : px_M) : Option (px_M) :=
  nm ((M 1 3) + 1) fun v_54 =>
  nm (px_u M 1 3 v_54) fun M_54 =>
  some M_54
theorem s_X2_takeTrial_47 {M : px_M} {L : px_L} {R : px_R} {e : (px_M)} (hS : SR sh R) (hd : 0 ≤ d) (hcu : cu ≤ mc) (hsu : su ≤ ms) (h : f_X2_takeTrial_47 M = some e) (g : Post none sh e L R n) : WX RX2 cX2_takeTrial 2 none ("takeTrial", []) d mc ms X (px_QF Post mc ms) 47 [(0, .ref 1)] [] sh M L R n cu su := by
  unfold f_X2_takeTrial_47 at h
  refine wx_aload_n dX2_takeTrial_47 rfl ?_
  refine wx_dup dX2_takeTrial_48 rfl ?_
  refine wx_getI dX2_takeTrial_49 fl_X2_34 (sc_1 hS) rfl ?_
  refine wx_iconst (v := 1) dX2_takeTrial_52 (by decide) ?_
  refine wx_iadd dX2_takeTrial_53 ?_
  refine wx_nami (fun v_54 q_54 => ?_)
  replace h := nm_at h q_54
  refine wx_putI dX2_takeTrial_54 fl_X2_34 (sc_1 hS) (Or.inl rfl) rfl ⟨rfl, rfl⟩ ?_
  refine wx_namM (fun M_54 q_54 => ?_)
  replace h := nm_at h q_54
  refine wx_vret dX2_takeTrial_57 hcu hsu ?_
  obtain rfl := Option.some.inj h
  exact g
noncomputable def f_X2_takeTrial (M : px_M) : Option (px_M) :=
  if (M 1 3) = 0 then
    bd1 (lpf (fun a : Int32 × px_M => f_X2_takeTrial_9 a.2 a.1) (0, M)) fun e_9 =>
    f_X2_takeTrial_47 e_9
  else
    f_X2_takeTrial_47 M
theorem s_X2_takeTrial {d : Nat} {X : Nat × (Nat → Int32)} {sh : px_Sh} {M : px_M} {L : px_L} {R : px_R} {n : Nat} {e : px_M} (hS : SR sh R) (hd : 0 ≤ d) (h : f_X2_takeTrial M = some e) : MX yX2_takeTrial cX2_takeTrial 2 none d 0 0 X [.ref 1] sh M L R n (px_pu none sh e L R n) := by
  refine MX.of (by decide +kernel) (by exact Nat.le_of_ble_eq_true rfl) ?_
  have hcu : 0 ≤ 0 := Nat.zero_le _
  have hsu : 0 ≤ 0 := Nat.zero_le _
  have g : px_pu none sh e L R n none sh e L R n := ⟨rfl, rfl, rfl, rfl, rfl, rfl⟩
  unfold f_X2_takeTrial at h
  refine wx_aload_n dX2_takeTrial_0 rfl ?_
  refine wx_getI dX2_takeTrial_1 fl_X2_34 (sc_1 hS) rfl ?_
  refine wx_if_ne (tgt := 47) dX2_takeTrial_4 (by decide) (fun c_4 => ?_) (fun c_4 => ?_)
  · replace h := it_f h c_4
    exact wx_sub (s_X2_takeTrial_47 hS hd hcu hsu h g) (px_s rfl px_0)
  · replace h := it_t h c_4
    refine wx_iconst (v := 0) dX2_takeTrial_7 (by decide) ?_
    refine wx_istore_n (lv' := [(1, _), (0, _)]) dX2_takeTrial_8 (by decide) rfl ?_
    obtain ⟨e_9, k_9, h⟩ := bd1_some h
    refine wx_sub (s_X2_takeTrial_9 hS hd hcu hsu k_9 ?_) (px_s rfl (px_s rfl px_0))
    exact wx_sub (s_X2_takeTrial_47 hS hd hcu hsu h g) (px_s rfl px_0)
noncomputable def f_X2_rises_38 (M : px_M) (z0 : Int32) : Option (Int32) :=
  ok (zb z0) <|
  some z0
theorem s_X2_rises_38 {z0 : Int32} {M : px_M} {L : px_L} {R : px_R} {e : (Int32)} (hS : SR sh R) (hd : 0 ≤ d) (hcu : cu ≤ mc) (hsu : su ≤ ms) (h : f_X2_rises_38 M z0 = some e) (g : Post (some (.int e)) sh M L R n) : WX RX2 cX2_rises 3 (some .boolean) ("rises", []) d mc ms X (px_QF Post mc ms) 38 [] [.int z0] sh M L R n cu su := by
  unfold f_X2_rises_38 at h
  obtain ⟨w_38, h⟩ := ok_some h
  refine wx_zret dX2_rises_38 (zb_n w_38) hcu hsu ?_
  obtain rfl := Option.some.inj h
  exact g
noncomputable def f_X2_rises_30 (M : px_M) (z0 : Int32) (z1 : Int32) : Option (Int32) :=
  if z1 = z0 then
    f_X2_rises_38 M 1
  else
    f_X2_rises_38 M 0
theorem s_X2_rises_30 {z0 : Int32} {z1 : Int32} {M : px_M} {L : px_L} {R : px_R} {e : (Int32)} (hS : SR sh R) (hd : 0 ≤ d) (hcu : cu ≤ mc) (hsu : su ≤ ms) (h : f_X2_rises_30 M z0 z1 = some e) (g : Post (some (.int e)) sh M L R n) : WX RX2 cX2_rises 3 (some .boolean) ("rises", []) d mc ms X (px_QF Post mc ms) 30 [] [.int z0, .int z1] sh M L R n cu su := by
  unfold f_X2_rises_30 at h
  refine wx_icmp_ne (tgt := 37) dX2_rises_30 (by decide) (fun c_30 => ?_) (fun c_30 => ?_)
  · replace h := it_f h c_30
    refine wx_iconst (v := 0) dX2_rises_37 (by decide) ?_
    exact wx_sub (s_X2_rises_38 hS hd hcu hsu h g) px_0
  · replace h := it_t h c_30
    refine wx_iconst (v := 1) dX2_rises_33 (by decide) ?_
    refine wx_goto (tgt := 38) dX2_rises_34 (by decide) ?_
    exact wx_sub (s_X2_rises_38 hS hd hcu hsu h g) px_0
noncomputable def f_X2_rises_17 (M : px_M) (x1 : Int32) (z0 : Int32) : Option (Int32) :=
  if (x1 - x1 / 2 * 2) = 0 then
    f_X2_rises_30 M 1 z0
  else
    f_X2_rises_30 M 0 z0
theorem s_X2_rises_17 {x1 : Int32} {z0 : Int32} {M : px_M} {L : px_L} {R : px_R} {e : (Int32)} (hS : SR sh R) (hd : 0 ≤ d) (hcu : cu ≤ mc) (hsu : su ≤ ms) (h : f_X2_rises_17 M x1 z0 = some e) (g : Post (some (.int e)) sh M L R n) : WX RX2 cX2_rises 3 (some .boolean) ("rises", []) d mc ms X (px_QF Post mc ms) 17 [(1, .int x1)] [.int z0] sh M L R n cu su := by
  unfold f_X2_rises_17 at h
  refine wx_istore_n (lv' := [(2, _), (1, _)]) dX2_rises_17 (by decide) rfl ?_
  refine wx_iload_n dX2_rises_18 rfl ?_
  refine wx_iload_n dX2_rises_19 rfl ?_
  refine wx_iconst (v := 2) dX2_rises_20 (by decide) ?_
  refine wx_irem dX2_rises_21 (by decide) ?_
  refine wx_if_ne (tgt := 29) dX2_rises_22 (by decide) (fun c_22 => ?_) (fun c_22 => ?_)
  · replace h := it_f h c_22
    refine wx_iconst (v := 0) dX2_rises_29 (by decide) ?_
    exact wx_sub (s_X2_rises_30 hS hd hcu hsu h g) px_0
  · replace h := it_t h c_22
    refine wx_iconst (v := 1) dX2_rises_25 (by decide) ?_
    refine wx_goto (tgt := 30) dX2_rises_26 (by decide) ?_
    exact wx_sub (s_X2_rises_30 hS hd hcu hsu h g) px_0
noncomputable def f_X2_rises (M : px_M) (p1 : Int32) : Option (Int32) :=
  if (((M 1 1) >>> (p1 &&& 31)) &&& 1) = 1 then
    f_X2_rises_17 M p1 1
  else
    f_X2_rises_17 M p1 0
theorem s_X2_rises {d : Nat} {X : Nat × (Nat → Int32)} {sh : px_Sh} {M : px_M} {L : px_L} {R : px_R} {n : Nat} {p1 : Int32} {e : Int32} (hS : SR sh R) (hd : 0 ≤ d) (h : f_X2_rises M p1 = some e) : MX yX2_rises cX2_rises 3 (some .boolean) d 0 0 X [.ref 1, .int p1] sh M L R n (px_pu (some (.int e)) sh M L R n) := by
  refine MX.of (by decide +kernel) (by exact Nat.le_of_ble_eq_true rfl) ?_
  have hcu : 0 ≤ 0 := Nat.zero_le _
  have hsu : 0 ≤ 0 := Nat.zero_le _
  have g : px_pu (some (.int e)) sh M L R n (some (.int e)) sh M L R n := ⟨rfl, rfl, rfl, rfl, rfl, rfl⟩
  unfold f_X2_rises at h
  refine wx_aload_n dX2_rises_0 rfl ?_
  refine wx_getI dX2_rises_1 fl_X2_28 (sc_1 hS) rfl ?_
  refine wx_iload_n dX2_rises_4 rfl ?_
  refine wx_ishr dX2_rises_5 ?_
  refine wx_iconst (v := 1) dX2_rises_6 (by decide) ?_
  refine wx_iand dX2_rises_7 ?_
  refine wx_iconst (v := 1) dX2_rises_8 (by decide) ?_
  refine wx_icmp_ne (tgt := 16) dX2_rises_9 (by decide) (fun c_9 => ?_) (fun c_9 => ?_)
  · replace h := it_f h c_9
    refine wx_iconst (v := 0) dX2_rises_16 (by decide) ?_
    exact wx_sub (s_X2_rises_17 hS hd hcu hsu h g) (px_s rfl px_0)
  · replace h := it_t h c_9
    refine wx_iconst (v := 1) dX2_rises_12 (by decide) ?_
    refine wx_goto (tgt := 17) dX2_rises_13 (by decide) ?_
    exact wx_sub (s_X2_rises_17 hS hd hcu hsu h g) (px_s rfl px_0)
noncomputable def f_X2_mayCome_114 (M : px_M) (z0 : Int32) : Option (Int32) :=
  ok (zb z0) <|
  some z0
theorem s_X2_mayCome_114 {z0 : Int32} {M : px_M} {L : px_L} {R : px_R} {e : (Int32)} (hS : SR sh R) (hd : 1 ≤ d) (hcu : cu ≤ mc) (hsu : su ≤ ms) (h : f_X2_mayCome_114 M z0 = some e) (g : Post (some (.int e)) sh M L R n) : WX RX2 cX2_mayCome 7 (some .boolean) ("mayCome", []) d mc ms X (px_QF Post mc ms) 114 [] [.int z0] sh M L R n cu su := by
  unfold f_X2_mayCome_114 at h
  obtain ⟨w_114, h⟩ := ok_some h
  refine wx_zret dX2_mayCome_114 (zb_n w_114) hcu hsu ?_
  obtain rfl := Option.some.inj h
  exact g
noncomputable def f_X2_mayCome_113 (M : px_M) : Option (Int32) :=
  f_X2_mayCome_114 M 0
theorem s_X2_mayCome_113 {M : px_M} {L : px_L} {R : px_R} {e : (Int32)} (hS : SR sh R) (hd : 1 ≤ d) (hcu : cu ≤ mc) (hsu : su ≤ ms) (h : f_X2_mayCome_113 M = some e) (g : Post (some (.int e)) sh M L R n) : WX RX2 cX2_mayCome 7 (some .boolean) ("mayCome", []) d mc ms X (px_QF Post mc ms) 113 [] [] sh M L R n cu su := by
  unfold f_X2_mayCome_113 at h
  refine wx_iconst (v := 0) dX2_mayCome_113 (by decide) ?_
  exact wx_sub (s_X2_mayCome_114 hS hd hcu hsu h g) px_0
noncomputable def f_X2_mayCome_97 (M : px_M) (x5 : Int32) (z0 : Int32) : Option (Int32) :=
  if x5 = 0 then
    f_X2_mayCome_113 M
  else
    if z0 = 0 then
      f_X2_mayCome_113 M
    else
      f_X2_mayCome_114 M 1
theorem s_X2_mayCome_97 {x5 : Int32} {z0 : Int32} {M : px_M} {L : px_L} {R : px_R} {e : (Int32)} (hS : SR sh R) (hd : 1 ≤ d) (hcu : cu ≤ mc) (hsu : su ≤ ms) (h : f_X2_mayCome_97 M x5 z0 = some e) (g : Post (some (.int e)) sh M L R n) : WX RX2 cX2_mayCome 7 (some .boolean) ("mayCome", []) d mc ms X (px_QF Post mc ms) 97 [(5, .int x5)] [.int z0] sh M L R n cu su := by
  unfold f_X2_mayCome_97 at h
  refine wx_istore (lv' := [(6, _), (5, _)]) dX2_mayCome_97 (by decide) rfl ?_
  refine wx_iload dX2_mayCome_99 rfl ?_
  refine wx_if_eq (tgt := 113) dX2_mayCome_101 (by decide) (fun c_101 => ?_) (fun c_101 => ?_)
  · replace h := it_t h c_101
    exact wx_sub (s_X2_mayCome_113 hS hd hcu hsu h g) px_0
  · replace h := it_f h c_101
    refine wx_iload dX2_mayCome_104 rfl ?_
    refine wx_if_eq (tgt := 113) dX2_mayCome_106 (by decide) (fun c_106 => ?_) (fun c_106 => ?_)
    · replace h := it_t h c_106
      exact wx_sub (s_X2_mayCome_113 hS hd hcu hsu h g) px_0
    · replace h := it_f h c_106
      refine wx_iconst (v := 1) dX2_mayCome_109 (by decide) ?_
      refine wx_goto (tgt := 114) dX2_mayCome_110 (by decide) ?_
      exact wx_sub (s_X2_mayCome_114 hS hd hcu hsu h g) px_0
noncomputable def f_X2_mayCome_92 (M : px_M) (x5 : Int32) : Option (Int32) :=
  f_X2_mayCome_97 M x5 1
theorem s_X2_mayCome_92 {x5 : Int32} {M : px_M} {L : px_L} {R : px_R} {e : (Int32)} (hS : SR sh R) (hd : 1 ≤ d) (hcu : cu ≤ mc) (hsu : su ≤ ms) (h : f_X2_mayCome_92 M x5 = some e) (g : Post (some (.int e)) sh M L R n) : WX RX2 cX2_mayCome 7 (some .boolean) ("mayCome", []) d mc ms X (px_QF Post mc ms) 92 [(5, .int x5)] [] sh M L R n cu su := by
  unfold f_X2_mayCome_92 at h
  refine wx_iconst (v := 1) dX2_mayCome_92 (by decide) ?_
  refine wx_goto (tgt := 97) dX2_mayCome_93 (by decide) ?_
  exact wx_sub (s_X2_mayCome_97 hS hd hcu hsu h g) (px_s rfl px_0)
noncomputable def f_X2_mayCome_70 (M : px_M) (x1 : Int32) (x4 : Int32) (z0 : Int32) : Option (Int32) :=
  if x1 = ((M 1 0) - 1) then
    f_X2_mayCome_92 M z0
  else
    bd1 (f_X2_rises M x1) fun e_86 =>
    if x4 = e_86 then
      f_X2_mayCome_97 M z0 0
    else
      f_X2_mayCome_92 M z0
theorem s_X2_mayCome_70 {x1 : Int32} {x4 : Int32} {z0 : Int32} {M : px_M} {L : px_L} {R : px_R} {e : (Int32)} (hS : SR sh R) (hd : 1 ≤ d) (hcu : cu ≤ mc) (hsu : su ≤ ms) (h : f_X2_mayCome_70 M x1 x4 z0 = some e) (g : Post (some (.int e)) sh M L R n) : WX RX2 cX2_mayCome 7 (some .boolean) ("mayCome", []) d mc ms X (px_QF Post mc ms) 70 [(0, .ref 1), (1, .int x1), (4, .int x4)] [.int z0] sh M L R n cu su := by
  unfold f_X2_mayCome_70 at h
  refine wx_istore (lv' := [(5, _), (0, _), (1, _), (4, _)]) dX2_mayCome_70 (by decide) rfl ?_
  refine wx_iload_n dX2_mayCome_72 rfl ?_
  refine wx_aload_n dX2_mayCome_73 rfl ?_
  refine wx_getI dX2_mayCome_74 fl_X2_24 (sc_1 hS) rfl ?_
  refine wx_iconst (v := 1) dX2_mayCome_77 (by decide) ?_
  refine wx_isub dX2_mayCome_78 ?_
  refine wx_icmp_eq (tgt := 92) dX2_mayCome_79 (by decide) (fun c_79 => ?_) (fun c_79 => ?_)
  · replace h := it_t h c_79
    exact wx_sub (s_X2_mayCome_92 hS hd hcu hsu h g) (px_s rfl px_0)
  · replace h := it_f h c_79
    refine wx_iload dX2_mayCome_82 rfl ?_
    refine wx_aload_n dX2_mayCome_84 rfl ?_
    refine wx_iload_n dX2_mayCome_85 rfl ?_
    obtain ⟨e_86, k_86, h⟩ := bd1_some h
    refine wx_cVi dX2_mayCome_86 ml_X2_59 my_X2_rises iv_X2_rises (sc_1 hS) (by decide) (s_X2_rises (d := d - 1) hS (by omega) k_86) rfl (by omega) (by exact Nat.le_of_ble_eq_true rfl) hcu hsu ?_
    refine wx_icmp_eq (tgt := 96) dX2_mayCome_89 (by decide) (fun c_89 => ?_) (fun c_89 => ?_)
    · replace h := it_t h c_89
      refine wx_iconst (v := 0) dX2_mayCome_96 (by decide) ?_
      exact wx_sub (s_X2_mayCome_97 hS hd hcu hsu h g) (px_s rfl px_0)
    · replace h := it_f h c_89
      exact wx_sub (s_X2_mayCome_92 hS hd hcu hsu h g) (px_s rfl px_0)
noncomputable def f_X2_mayCome_65 (M : px_M) (x1 : Int32) (x4 : Int32) : Option (Int32) :=
  f_X2_mayCome_70 M x1 x4 1
theorem s_X2_mayCome_65 {x1 : Int32} {x4 : Int32} {M : px_M} {L : px_L} {R : px_R} {e : (Int32)} (hS : SR sh R) (hd : 1 ≤ d) (hcu : cu ≤ mc) (hsu : su ≤ ms) (h : f_X2_mayCome_65 M x1 x4 = some e) (g : Post (some (.int e)) sh M L R n) : WX RX2 cX2_mayCome 7 (some .boolean) ("mayCome", []) d mc ms X (px_QF Post mc ms) 65 [(0, .ref 1), (1, .int x1), (4, .int x4)] [] sh M L R n cu su := by
  unfold f_X2_mayCome_65 at h
  refine wx_iconst (v := 1) dX2_mayCome_65 (by decide) ?_
  refine wx_goto (tgt := 70) dX2_mayCome_66 (by decide) ?_
  exact wx_sub (s_X2_mayCome_70 hS hd hcu hsu h g) (px_s rfl (px_s rfl (px_s rfl px_0)))
noncomputable def f_X2_mayCome_48 (M : px_M) (x1 : Int32) (x3 : Int32) (z0 : Int32) : Option (Int32) :=
  if x1 = 0 then
    f_X2_mayCome_65 M x1 z0
  else
    bd1 (f_X2_rises M (x1 - 1)) fun e_59 =>
    if x3 = e_59 then
      f_X2_mayCome_65 M x1 z0
    else
      f_X2_mayCome_70 M x1 z0 0
theorem s_X2_mayCome_48 {x1 : Int32} {x3 : Int32} {z0 : Int32} {M : px_M} {L : px_L} {R : px_R} {e : (Int32)} (hS : SR sh R) (hd : 1 ≤ d) (hcu : cu ≤ mc) (hsu : su ≤ ms) (h : f_X2_mayCome_48 M x1 x3 z0 = some e) (g : Post (some (.int e)) sh M L R n) : WX RX2 cX2_mayCome 7 (some .boolean) ("mayCome", []) d mc ms X (px_QF Post mc ms) 48 [(0, .ref 1), (1, .int x1), (3, .int x3)] [.int z0] sh M L R n cu su := by
  unfold f_X2_mayCome_48 at h
  refine wx_istore (lv' := [(4, _), (0, _), (1, _), (3, _)]) dX2_mayCome_48 (by decide) rfl ?_
  refine wx_iload_n dX2_mayCome_50 rfl ?_
  refine wx_if_eq (tgt := 65) dX2_mayCome_51 (by decide) (fun c_51 => ?_) (fun c_51 => ?_)
  · replace h := it_t h c_51
    exact wx_sub (s_X2_mayCome_65 hS hd hcu hsu h g) (px_s rfl (px_s rfl (px_s rfl px_0)))
  · replace h := it_f h c_51
    refine wx_iload_n dX2_mayCome_54 rfl ?_
    refine wx_aload_n dX2_mayCome_55 rfl ?_
    refine wx_iload_n dX2_mayCome_56 rfl ?_
    refine wx_iconst (v := 1) dX2_mayCome_57 (by decide) ?_
    refine wx_isub dX2_mayCome_58 ?_
    obtain ⟨e_59, k_59, h⟩ := bd1_some h
    refine wx_cVi dX2_mayCome_59 ml_X2_59 my_X2_rises iv_X2_rises (sc_1 hS) (by decide) (s_X2_rises (d := d - 1) hS (by omega) k_59) rfl (by omega) (by exact Nat.le_of_ble_eq_true rfl) hcu hsu ?_
    refine wx_icmp_ne (tgt := 69) dX2_mayCome_62 (by decide) (fun c_62 => ?_) (fun c_62 => ?_)
    · replace h := it_f h c_62
      refine wx_iconst (v := 0) dX2_mayCome_69 (by decide) ?_
      exact wx_sub (s_X2_mayCome_70 hS hd hcu hsu h g) (px_s rfl (px_s rfl (px_s rfl px_0)))
    · replace h := it_t h c_62
      exact wx_sub (s_X2_mayCome_65 hS hd hcu hsu h g) (px_s rfl (px_s rfl (px_s rfl px_0)))
noncomputable def f_X2_mayCome_31 (M : px_M) (x1 : Int32) (x2 : Int32) (z0 : Int32) : Option (Int32) :=
  if ((x2 >>> ((x1 + 1) &&& 31)) &&& 1) = 1 then
    f_X2_mayCome_48 M x1 z0 1
  else
    f_X2_mayCome_48 M x1 z0 0
theorem s_X2_mayCome_31 {x1 : Int32} {x2 : Int32} {z0 : Int32} {M : px_M} {L : px_L} {R : px_R} {e : (Int32)} (hS : SR sh R) (hd : 1 ≤ d) (hcu : cu ≤ mc) (hsu : su ≤ ms) (h : f_X2_mayCome_31 M x1 x2 z0 = some e) (g : Post (some (.int e)) sh M L R n) : WX RX2 cX2_mayCome 7 (some .boolean) ("mayCome", []) d mc ms X (px_QF Post mc ms) 31 [(0, .ref 1), (1, .int x1), (2, .int x2)] [.int z0] sh M L R n cu su := by
  unfold f_X2_mayCome_31 at h
  refine wx_istore_n (lv' := [(3, _), (0, _), (1, _), (2, _)]) dX2_mayCome_31 (by decide) rfl ?_
  refine wx_iload_n dX2_mayCome_32 rfl ?_
  refine wx_iload_n dX2_mayCome_33 rfl ?_
  refine wx_iconst (v := 1) dX2_mayCome_34 (by decide) ?_
  refine wx_iadd dX2_mayCome_35 ?_
  refine wx_ishr dX2_mayCome_36 ?_
  refine wx_iconst (v := 1) dX2_mayCome_37 (by decide) ?_
  refine wx_iand dX2_mayCome_38 ?_
  refine wx_iconst (v := 1) dX2_mayCome_39 (by decide) ?_
  refine wx_icmp_ne (tgt := 47) dX2_mayCome_40 (by decide) (fun c_40 => ?_) (fun c_40 => ?_)
  · replace h := it_f h c_40
    refine wx_iconst (v := 0) dX2_mayCome_47 (by decide) ?_
    exact wx_sub (s_X2_mayCome_48 hS hd hcu hsu h g) (px_s rfl (px_s rfl (px_s rfl px_0)))
  · replace h := it_t h c_40
    refine wx_iconst (v := 1) dX2_mayCome_43 (by decide) ?_
    refine wx_goto (tgt := 48) dX2_mayCome_44 (by decide) ?_
    exact wx_sub (s_X2_mayCome_48 hS hd hcu hsu h g) (px_s rfl (px_s rfl (px_s rfl px_0)))
noncomputable def f_X2_mayCome_30 (M : px_M) (x1 : Int32) (x2 : Int32) : Option (Int32) :=
  f_X2_mayCome_31 M x1 x2 0
theorem s_X2_mayCome_30 {x1 : Int32} {x2 : Int32} {M : px_M} {L : px_L} {R : px_R} {e : (Int32)} (hS : SR sh R) (hd : 1 ≤ d) (hcu : cu ≤ mc) (hsu : su ≤ ms) (h : f_X2_mayCome_30 M x1 x2 = some e) (g : Post (some (.int e)) sh M L R n) : WX RX2 cX2_mayCome 7 (some .boolean) ("mayCome", []) d mc ms X (px_QF Post mc ms) 30 [(0, .ref 1), (1, .int x1), (2, .int x2)] [] sh M L R n cu su := by
  unfold f_X2_mayCome_30 at h
  refine wx_iconst (v := 0) dX2_mayCome_30 (by decide) ?_
  exact wx_sub (s_X2_mayCome_31 hS hd hcu hsu h g) (px_s rfl (px_s rfl (px_s rfl px_0)))
noncomputable def f_X2_mayCome (M : px_M) (p1 : Int32) (p2 : Int32) : Option (Int32) :=
  if ((p2 >>> (p1 &&& 31)) &&& 1) = 1 then
    some 0
  else
    if p1 ≤ 0 then
      f_X2_mayCome_30 M p1 p2
    else
      if ((p2 >>> ((p1 - 1) &&& 31)) &&& 1) = 1 then
        f_X2_mayCome_31 M p1 p2 1
      else
        f_X2_mayCome_30 M p1 p2
theorem s_X2_mayCome {d : Nat} {X : Nat × (Nat → Int32)} {sh : px_Sh} {M : px_M} {L : px_L} {R : px_R} {n : Nat} {p1 : Int32} {p2 : Int32} {e : Int32} (hS : SR sh R) (hd : 1 ≤ d) (h : f_X2_mayCome M p1 p2 = some e) : MX yX2_mayCome cX2_mayCome 7 (some .boolean) d 0 0 X [.ref 1, .int p1, .int p2] sh M L R n (px_pu (some (.int e)) sh M L R n) := by
  refine MX.of (by decide +kernel) (by exact Nat.le_of_ble_eq_true rfl) ?_
  have hcu : 0 ≤ 0 := Nat.zero_le _
  have hsu : 0 ≤ 0 := Nat.zero_le _
  have g : px_pu (some (.int e)) sh M L R n (some (.int e)) sh M L R n := ⟨rfl, rfl, rfl, rfl, rfl, rfl⟩
  unfold f_X2_mayCome at h
  refine wx_iload_n dX2_mayCome_0 rfl ?_
  refine wx_iload_n dX2_mayCome_1 rfl ?_
  refine wx_ishr dX2_mayCome_2 ?_
  refine wx_iconst (v := 1) dX2_mayCome_3 (by decide) ?_
  refine wx_iand dX2_mayCome_4 ?_
  refine wx_iconst (v := 1) dX2_mayCome_5 (by decide) ?_
  refine wx_icmp_ne (tgt := 11) dX2_mayCome_6 (by decide) (fun c_6 => ?_) (fun c_6 => ?_)
  · replace h := it_f h c_6
    refine wx_iload_n dX2_mayCome_11 rfl ?_
    refine wx_if_le (tgt := 30) dX2_mayCome_12 (by decide) (fun c_12 => ?_) (fun c_12 => ?_)
    · replace h := it_t h c_12
      exact wx_sub (s_X2_mayCome_30 hS hd hcu hsu h g) (px_s rfl (px_s rfl (px_s rfl px_0)))
    · replace h := it_f h c_12
      refine wx_iload_n dX2_mayCome_15 rfl ?_
      refine wx_iload_n dX2_mayCome_16 rfl ?_
      refine wx_iconst (v := 1) dX2_mayCome_17 (by decide) ?_
      refine wx_isub dX2_mayCome_18 ?_
      refine wx_ishr dX2_mayCome_19 ?_
      refine wx_iconst (v := 1) dX2_mayCome_20 (by decide) ?_
      refine wx_iand dX2_mayCome_21 ?_
      refine wx_iconst (v := 1) dX2_mayCome_22 (by decide) ?_
      refine wx_icmp_ne (tgt := 30) dX2_mayCome_23 (by decide) (fun c_23 => ?_) (fun c_23 => ?_)
      · replace h := it_f h c_23
        exact wx_sub (s_X2_mayCome_30 hS hd hcu hsu h g) (px_s rfl (px_s rfl (px_s rfl px_0)))
      · replace h := it_t h c_23
        refine wx_iconst (v := 1) dX2_mayCome_26 (by decide) ?_
        refine wx_goto (tgt := 31) dX2_mayCome_27 (by decide) ?_
        exact wx_sub (s_X2_mayCome_31 hS hd hcu hsu h g) (px_s rfl (px_s rfl (px_s rfl px_0)))
  · replace h := it_t h c_6
    refine wx_iconst (v := 0) dX2_mayCome_9 (by decide) ?_
    refine wx_zret dX2_mayCome_10 rfl hcu hsu ?_
    obtain rfl := Option.some.inj h
    exact g
noncomputable def f_X2_evenCrease_13 (z0 : Int32) : Option (Int32) :=
  some z0
theorem s_X2_evenCrease_13 {z0 : Int32} {M : px_M} {L : px_L} {R : px_R} {e : (Int32)} (hS : SR sh R) (hd : 0 ≤ d) (hcu : cu ≤ mc) (hsu : su ≤ ms) (h : f_X2_evenCrease_13 z0 = some e) (g : Post (some (.int e)) sh M L R n) : WX RX2 cX2_evenCrease 1 (some .int) ("evenCrease", []) d mc ms X (px_QF Post mc ms) 13 [] [.int z0] sh M L R n cu su := by
  unfold f_X2_evenCrease_13 at h
  refine wx_iret dX2_evenCrease_13 hcu hsu ?_
  obtain rfl := Option.some.inj h
  exact g
noncomputable def f_X2_evenCrease (p0 : Int32) : Option (Int32) :=
  if (p0 - p0 / 2 * 2) = 0 then
    f_X2_evenCrease_13 p0
  else
    f_X2_evenCrease_13 (p0 - 1)
theorem s_X2_evenCrease {d : Nat} {X : Nat × (Nat → Int32)} {sh : px_Sh} {M : px_M} {L : px_L} {R : px_R} {n : Nat} {p0 : Int32} {e : Int32} (hS : SR sh R) (hd : 0 ≤ d) (h : f_X2_evenCrease p0 = some e) : MX yX2_evenCrease cX2_evenCrease 1 (some .int) d 0 0 X [.int p0] sh M L R n (px_pu (some (.int e)) sh M L R n) := by
  refine MX.of (by decide +kernel) (by exact Nat.le_of_ble_eq_true rfl) ?_
  have hcu : 0 ≤ 0 := Nat.zero_le _
  have hsu : 0 ≤ 0 := Nat.zero_le _
  have g : px_pu (some (.int e)) sh M L R n (some (.int e)) sh M L R n := ⟨rfl, rfl, rfl, rfl, rfl, rfl⟩
  unfold f_X2_evenCrease at h
  refine wx_iload_n dX2_evenCrease_0 rfl ?_
  refine wx_iconst (v := 2) dX2_evenCrease_1 (by decide) ?_
  refine wx_irem dX2_evenCrease_2 (by decide) ?_
  refine wx_if_ne (tgt := 10) dX2_evenCrease_3 (by decide) (fun c_3 => ?_) (fun c_3 => ?_)
  · replace h := it_f h c_3
    refine wx_iload_n dX2_evenCrease_10 rfl ?_
    refine wx_iconst (v := 1) dX2_evenCrease_11 (by decide) ?_
    refine wx_isub dX2_evenCrease_12 ?_
    exact wx_sub (s_X2_evenCrease_13 hS hd hcu hsu h g) px_0
  · replace h := it_t h c_3
    refine wx_iload_n dX2_evenCrease_6 rfl ?_
    refine wx_goto (tgt := 13) dX2_evenCrease_7 (by decide) ?_
    exact wx_sub (s_X2_evenCrease_13 hS hd hcu hsu h g) px_0
noncomputable def f_X2_sideWith_65 (M : px_M) (z0 : Int32) : Option (Int32) :=
  some z0
theorem s_X2_sideWith_65 {z0 : Int32} {M : px_M} {L : px_L} {R : px_R} {e : (Int32)} (hS : SR sh R) (hd : 0 ≤ d) (hcu : cu ≤ mc) (hsu : su ≤ ms) (h : f_X2_sideWith_65 M z0 = some e) (g : Post (some (.int e)) sh M L R n) : WX RX2 cX2_sideWith 6 (some .int) ("sideWith", []) d mc ms X (px_QF Post mc ms) 65 [] [.int z0] sh M L R n cu su := by
  unfold f_X2_sideWith_65 at h
  refine wx_iret dX2_sideWith_65 hcu hsu ?_
  obtain rfl := Option.some.inj h
  exact g
noncomputable def f_X2_sideWith_28 (M : px_M) (x1 : Int32) (x2 : Int32) (x4 : Int32) (z0 : Int32) : Option (Int32) :=
  if ((x4 >>> (z0 &&& 31)) &&& 1) = 0 then
    some ((x1 <<< (4 &&& 31)) ||| (x2 + 1))
  else
    if (x1 &&& 15) = (x2 + 1) then
      f_X2_sideWith_65 M (((x1 : Int32).toUInt32 >>> ((4 : Int32).toUInt32 &&& Int32.toUInt32 31)).toInt32)
    else
      f_X2_sideWith_65 M (-1)
theorem s_X2_sideWith_28 {x1 : Int32} {x2 : Int32} {x4 : Int32} {z0 : Int32} {M : px_M} {L : px_L} {R : px_R} {e : (Int32)} (hS : SR sh R) (hd : 0 ≤ d) (hcu : cu ≤ mc) (hsu : su ≤ ms) (h : f_X2_sideWith_28 M x1 x2 x4 z0 = some e) (g : Post (some (.int e)) sh M L R n) : WX RX2 cX2_sideWith 6 (some .int) ("sideWith", []) d mc ms X (px_QF Post mc ms) 28 [(1, .int x1), (2, .int x2), (4, .int x4)] [.int z0] sh M L R n cu su := by
  unfold f_X2_sideWith_28 at h
  refine wx_istore (lv' := [(5, _), (1, _), (2, _), (4, _)]) dX2_sideWith_28 (by decide) rfl ?_
  refine wx_iload dX2_sideWith_30 rfl ?_
  refine wx_iload dX2_sideWith_32 rfl ?_
  refine wx_ishr dX2_sideWith_34 ?_
  refine wx_iconst (v := 1) dX2_sideWith_35 (by decide) ?_
  refine wx_iand dX2_sideWith_36 ?_
  refine wx_if_ne (tgt := 48) dX2_sideWith_37 (by decide) (fun c_37 => ?_) (fun c_37 => ?_)
  · replace h := it_f h c_37
    refine wx_iload_n dX2_sideWith_48 rfl ?_
    refine wx_bipush (v := 15) dX2_sideWith_49 (by decide) ?_
    refine wx_iand dX2_sideWith_51 ?_
    refine wx_iload_n dX2_sideWith_52 rfl ?_
    refine wx_iconst (v := 1) dX2_sideWith_53 (by decide) ?_
    refine wx_iadd dX2_sideWith_54 ?_
    refine wx_icmp_ne (tgt := 64) dX2_sideWith_55 (by decide) (fun c_55 => ?_) (fun c_55 => ?_)
    · replace h := it_f h c_55
      refine wx_iconst (v := (-1)) dX2_sideWith_64 (by decide) ?_
      exact wx_sub (s_X2_sideWith_65 hS hd hcu hsu h g) px_0
    · replace h := it_t h c_55
      refine wx_iload_n dX2_sideWith_58 rfl ?_
      refine wx_iconst (v := 4) dX2_sideWith_59 (by decide) ?_
      refine wx_iushr dX2_sideWith_60 ?_
      refine wx_goto (tgt := 65) dX2_sideWith_61 (by decide) ?_
      exact wx_sub (s_X2_sideWith_65 hS hd hcu hsu h g) px_0
  · replace h := it_t h c_37
    refine wx_iload_n dX2_sideWith_40 rfl ?_
    refine wx_iconst (v := 4) dX2_sideWith_41 (by decide) ?_
    refine wx_ishl dX2_sideWith_42 ?_
    refine wx_iload_n dX2_sideWith_43 rfl ?_
    refine wx_iconst (v := 1) dX2_sideWith_44 (by decide) ?_
    refine wx_iadd dX2_sideWith_45 ?_
    refine wx_ior dX2_sideWith_46 ?_
    refine wx_iret dX2_sideWith_47 hcu hsu ?_
    obtain rfl := Option.some.inj h
    exact g
noncomputable def f_X2_sideWith_14 (M : px_M) (x1 : Int32) : Option (Int32) :=
  some x1
theorem s_X2_sideWith_14 {x1 : Int32} {M : px_M} {L : px_L} {R : px_R} {e : (Int32)} (hS : SR sh R) (hd : 0 ≤ d) (hcu : cu ≤ mc) (hsu : su ≤ ms) (h : f_X2_sideWith_14 M x1 = some e) (g : Post (some (.int e)) sh M L R n) : WX RX2 cX2_sideWith 6 (some .int) ("sideWith", []) d mc ms X (px_QF Post mc ms) 14 [(1, .int x1)] [] sh M L R n cu su := by
  unfold f_X2_sideWith_14 at h
  refine wx_iload_n dX2_sideWith_14 rfl ?_
  refine wx_iret dX2_sideWith_15 hcu hsu ?_
  obtain rfl := Option.some.inj h
  exact g
noncomputable def f_X2_sideWith (M : px_M) (p1 : Int32) (p2 : Int32) (p3 : Int32) (p4 : Int32) : Option (Int32) :=
  if p2 < 0 then
    f_X2_sideWith_14 M p1
  else
    if p2 < ((M 1 0) - 1) then
      if p3 = p2 then
        f_X2_sideWith_28 M p1 p2 p4 (p2 + 1)
      else
        f_X2_sideWith_28 M p1 p2 p4 p2
    else
      f_X2_sideWith_14 M p1
theorem s_X2_sideWith {d : Nat} {X : Nat × (Nat → Int32)} {sh : px_Sh} {M : px_M} {L : px_L} {R : px_R} {n : Nat} {p1 : Int32} {p2 : Int32} {p3 : Int32} {p4 : Int32} {e : Int32} (hS : SR sh R) (hd : 0 ≤ d) (h : f_X2_sideWith M p1 p2 p3 p4 = some e) : MX yX2_sideWith cX2_sideWith 6 (some .int) d 0 0 X [.ref 1, .int p1, .int p2, .int p3, .int p4] sh M L R n (px_pu (some (.int e)) sh M L R n) := by
  refine MX.of (by decide +kernel) (by exact Nat.le_of_ble_eq_true rfl) ?_
  have hcu : 0 ≤ 0 := Nat.zero_le _
  have hsu : 0 ≤ 0 := Nat.zero_le _
  have g : px_pu (some (.int e)) sh M L R n (some (.int e)) sh M L R n := ⟨rfl, rfl, rfl, rfl, rfl, rfl⟩
  unfold f_X2_sideWith at h
  refine wx_iload_n dX2_sideWith_0 rfl ?_
  refine wx_if_lt (tgt := 14) dX2_sideWith_1 (by decide) (fun c_1 => ?_) (fun c_1 => ?_)
  · replace h := it_t h c_1
    exact wx_sub (s_X2_sideWith_14 hS hd hcu hsu h g) (px_s rfl px_0)
  · replace h := it_f h c_1
    refine wx_iload_n dX2_sideWith_4 rfl ?_
    refine wx_aload_n dX2_sideWith_5 rfl ?_
    refine wx_getI dX2_sideWith_6 fl_X2_24 (sc_1 hS) rfl ?_
    refine wx_iconst (v := 1) dX2_sideWith_9 (by decide) ?_
    refine wx_isub dX2_sideWith_10 ?_
    refine wx_icmp_lt (tgt := 16) dX2_sideWith_11 (by decide) (fun c_11 => ?_) (fun c_11 => ?_)
    · replace h := it_t h c_11
      refine wx_iload_n dX2_sideWith_16 rfl ?_
      refine wx_iload_n dX2_sideWith_17 rfl ?_
      refine wx_icmp_ne (tgt := 27) dX2_sideWith_18 (by decide) (fun c_18 => ?_) (fun c_18 => ?_)
      · replace h := it_f h c_18
        refine wx_iload_n dX2_sideWith_27 rfl ?_
        exact wx_sub (s_X2_sideWith_28 hS hd hcu hsu h g) (px_s rfl (px_s rfl (px_s rfl px_0)))
      · replace h := it_t h c_18
        refine wx_iload_n dX2_sideWith_21 rfl ?_
        refine wx_iconst (v := 1) dX2_sideWith_22 (by decide) ?_
        refine wx_iadd dX2_sideWith_23 ?_
        refine wx_goto (tgt := 28) dX2_sideWith_24 (by decide) ?_
        exact wx_sub (s_X2_sideWith_28 hS hd hcu hsu h g) (px_s rfl (px_s rfl (px_s rfl px_0)))
    · replace h := it_f h c_11
      exact wx_sub (s_X2_sideWith_14 hS hd hcu hsu h g) (px_s rfl px_0)
noncomputable def f_X2_oddCrease_13 (z0 : Int32) : Option (Int32) :=
  some z0
theorem s_X2_oddCrease_13 {z0 : Int32} {M : px_M} {L : px_L} {R : px_R} {e : (Int32)} (hS : SR sh R) (hd : 0 ≤ d) (hcu : cu ≤ mc) (hsu : su ≤ ms) (h : f_X2_oddCrease_13 z0 = some e) (g : Post (some (.int e)) sh M L R n) : WX RX2 cX2_oddCrease 1 (some .int) ("oddCrease", []) d mc ms X (px_QF Post mc ms) 13 [] [.int z0] sh M L R n cu su := by
  unfold f_X2_oddCrease_13 at h
  refine wx_iret dX2_oddCrease_13 hcu hsu ?_
  obtain rfl := Option.some.inj h
  exact g
noncomputable def f_X2_oddCrease (p0 : Int32) : Option (Int32) :=
  if (p0 - p0 / 2 * 2) = 0 then
    f_X2_oddCrease_13 (p0 - 1)
  else
    f_X2_oddCrease_13 p0
theorem s_X2_oddCrease {d : Nat} {X : Nat × (Nat → Int32)} {sh : px_Sh} {M : px_M} {L : px_L} {R : px_R} {n : Nat} {p0 : Int32} {e : Int32} (hS : SR sh R) (hd : 0 ≤ d) (h : f_X2_oddCrease p0 = some e) : MX yX2_oddCrease cX2_oddCrease 1 (some .int) d 0 0 X [.int p0] sh M L R n (px_pu (some (.int e)) sh M L R n) := by
  refine MX.of (by decide +kernel) (by exact Nat.le_of_ble_eq_true rfl) ?_
  have hcu : 0 ≤ 0 := Nat.zero_le _
  have hsu : 0 ≤ 0 := Nat.zero_le _
  have g : px_pu (some (.int e)) sh M L R n (some (.int e)) sh M L R n := ⟨rfl, rfl, rfl, rfl, rfl, rfl⟩
  unfold f_X2_oddCrease at h
  refine wx_iload_n dX2_oddCrease_0 rfl ?_
  refine wx_iconst (v := 2) dX2_oddCrease_1 (by decide) ?_
  refine wx_irem dX2_oddCrease_2 (by decide) ?_
  refine wx_if_ne (tgt := 12) dX2_oddCrease_3 (by decide) (fun c_3 => ?_) (fun c_3 => ?_)
  · replace h := it_f h c_3
    refine wx_iload_n dX2_oddCrease_12 rfl ?_
    exact wx_sub (s_X2_oddCrease_13 hS hd hcu hsu h g) px_0
  · replace h := it_t h c_3
    refine wx_iload_n dX2_oddCrease_6 rfl ?_
    refine wx_iconst (v := 1) dX2_oddCrease_7 (by decide) ?_
    refine wx_isub dX2_oddCrease_8 ?_
    refine wx_goto (tgt := 13) dX2_oddCrease_9 (by decide) ?_
    exact wx_sub (s_X2_oddCrease_13 hS hd hcu hsu h g) px_0
noncomputable def o_X2_pileFrom_103 (r_X2_pileFrom : px_M → Int32 → Int32 → Int32 → Int32 → Option (px_M)) (M : px_M) (x1 : Int32) (x2 : Int32) (x3 : Int32) (x4 : Int32) (x5 : Int32) : Option ((Int32 × px_M) ⊕ (px_M)) :=
  some (.inl ((x5 + 1), M))
theorem so_X2_pileFrom_103 {dr : Nat} {r_X2_pileFrom : px_M → Int32 → Int32 → Int32 → Int32 → Option (px_M)} {x1 : Int32} {x2 : Int32} {x3 : Int32} {x4 : Int32} {x5 : Int32} {M : px_M} {L : px_L} {R : px_R} {e : ((Int32 × px_M) ⊕ (px_M))} (h_X2_pileFrom : ∀ {d : Nat} {X : Nat × (Nat → Int32)} {sh : px_Sh} {M : px_M} {L : px_L} {R : px_R} {n : Nat} {p1 : Int32} {p2 : Int32} {p3 : Int32} {p4 : Int32} {e : px_M}, SR sh R → dr ≤ d → r_X2_pileFrom M p1 p2 p3 p4 = some e → MX yX2_pileFrom cX2_pileFrom 8 none d 0 0 X [.ref 1, .int p1, .int p2, .int p3, .int p4] sh M L R n (px_pu none sh e L R n)) (hS : SR sh R) (hd : 2 ≤ d) (hdr : dr + 1 ≤ d) (hcu : cu ≤ mc) (hsu : su ≤ ms) (h : o_X2_pileFrom_103 r_X2_pileFrom M x1 x2 x3 x4 x5 = some e) (g : (sE (fun a => WX RX2 cX2_pileFrom 8 none ("pileFrom", []) d mc ms X (px_QF Post mc ms) 16 [(0, .ref 1), (1, .int x1), (2, .int x2), (3, .int x3), (4, .int x4), (5, .int a.1)] [] sh (a.2) L R n cu su) (fun t => WX RX2 cX2_pileFrom 8 none ("pileFrom", []) d mc ms X (px_QF Post mc ms) 109 [] [] sh t L R n cu su)) e) : WX RX2 cX2_pileFrom 8 none ("pileFrom", []) d mc ms X (px_QF Post mc ms) 103 [(0, .ref 1), (1, .int x1), (2, .int x2), (3, .int x3), (4, .int x4), (5, .int x5)] [] sh M L R n cu su := by
  unfold o_X2_pileFrom_103 at h
  refine wx_iinc (lv' := [(5, _), (0, _), (1, _), (2, _), (3, _), (4, _)]) dX2_pileFrom_103 rfl (i_1 _) (by decide) rfl ?_
  refine wx_goto (tgt := 16) dX2_pileFrom_106 (by decide) ?_
  obtain rfl := Option.some.inj h
  replace g := sE_l g
  exact wx_sub g (px_s rfl (px_s rfl (px_s rfl (px_s rfl (px_s rfl (px_s rfl px_0))))))
noncomputable def o_X2_pileFrom_16 (r_X2_pileFrom : px_M → Int32 → Int32 → Int32 → Int32 → Option (px_M)) (M : px_M) (x1 : Int32) (x2 : Int32) (x3 : Int32) (x4 : Int32) (x5 : Int32) : Option ((Int32 × px_M) ⊕ (px_M)) :=
  if (M 1 0) ≤ x5 then
    some (.inr M)
  else
    bd1 (f_X2_mayCome M x5 x2) fun e_29 =>
    if e_29 = 0 then
      o_X2_pileFrom_103 r_X2_pileFrom M x1 x2 x3 x4 x5
    else
      bd1 (f_X2_evenCrease x5) fun e_39 =>
      bd1 (f_X2_sideWith M x3 e_39 x5 x2) fun e_45 =>
      bd1 (f_X2_oddCrease x5) fun e_55 =>
      bd1 (f_X2_sideWith M x4 e_55 x5 x2) fun e_61 =>
      if e_45 = (-1) then
        o_X2_pileFrom_103 r_X2_pileFrom M x1 x2 x3 x4 x5
      else
        if e_61 = (-1) then
          o_X2_pileFrom_103 r_X2_pileFrom M x1 x2 x3 x4 x5
        else
          ok (ix x1 8) <|
          nm (px_u M 4 x1.toNatClampNeg x5) fun M_85 =>
          bd1 (r_X2_pileFrom M_85 (x1 + 1) (x2 ||| (1 <<< (x5 &&& 31))) e_45 e_61) fun e_100 =>
          o_X2_pileFrom_103 r_X2_pileFrom e_100 x1 x2 x3 x4 x5
theorem so_X2_pileFrom_16b {dr : Nat} {r_X2_pileFrom : px_M → Int32 → Int32 → Int32 → Int32 → Option (px_M)} {x1 : Int32} {x2 : Int32} {x3 : Int32} {x4 : Int32} {x5 : Int32} {M : px_M} {L : px_L} {R : px_R} {e : ((Int32 × px_M) ⊕ (px_M))} (h_X2_pileFrom : ∀ {d : Nat} {X : Nat × (Nat → Int32)} {sh : px_Sh} {M : px_M} {L : px_L} {R : px_R} {n : Nat} {p1 : Int32} {p2 : Int32} {p3 : Int32} {p4 : Int32} {e : px_M}, SR sh R → dr ≤ d → r_X2_pileFrom M p1 p2 p3 p4 = some e → MX yX2_pileFrom cX2_pileFrom 8 none d 0 0 X [.ref 1, .int p1, .int p2, .int p3, .int p4] sh M L R n (px_pu none sh e L R n)) (hS : SR sh R) (hd : 2 ≤ d) (hdr : dr + 1 ≤ d) (hcu : cu ≤ mc) (hsu : su ≤ ms) (h : o_X2_pileFrom_16 r_X2_pileFrom M x1 x2 x3 x4 x5 = some e) (g : (sE (fun a => WX RX2 cX2_pileFrom 8 none ("pileFrom", []) d mc ms X (px_QF Post mc ms) 16 [(0, .ref 1), (1, .int x1), (2, .int x2), (3, .int x3), (4, .int x4), (5, .int a.1)] [] sh (a.2) L R n cu su) (fun t => WX RX2 cX2_pileFrom 8 none ("pileFrom", []) d mc ms X (px_QF Post mc ms) 109 [] [] sh t L R n cu su)) e) : WX RX2 cX2_pileFrom 8 none ("pileFrom", []) d mc ms X (px_QF Post mc ms) 16 [(0, .ref 1), (1, .int x1), (2, .int x2), (3, .int x3), (4, .int x4), (5, .int x5)] [] sh M L R n cu su := by
  unfold o_X2_pileFrom_16 at h
  refine wx_iload dX2_pileFrom_16 rfl ?_
  refine wx_aload_n dX2_pileFrom_18 rfl ?_
  refine wx_getI dX2_pileFrom_19 fl_X2_24 (sc_1 hS) rfl ?_
  refine wx_icmp_ge (tgt := 109) dX2_pileFrom_22 (by decide) (fun c_22 => ?_) (fun c_22 => ?_)
  · replace h := it_t h c_22
    obtain rfl := Option.some.inj h
    replace g := sE_r g
    exact wx_sub g px_0
  · replace h := it_f h c_22
    refine wx_aload_n dX2_pileFrom_25 rfl ?_
    refine wx_iload dX2_pileFrom_26 rfl ?_
    refine wx_iload_n dX2_pileFrom_28 rfl ?_
    obtain ⟨e_29, k_29, h⟩ := bd1_some h
    refine wx_cVi dX2_pileFrom_29 ml_X2_44 my_X2_mayCome iv_X2_mayCome (sc_1 hS) (by decide) (s_X2_mayCome (d := d - 1) hS (by omega) k_29) rfl (by omega) (by exact Nat.le_of_ble_eq_true rfl) hcu hsu ?_
    refine wx_if_eq (tgt := 103) dX2_pileFrom_32 (by decide) (fun c_32 => ?_) (fun c_32 => ?_)
    · replace h := it_t h c_32
      exact wx_sub (so_X2_pileFrom_103 h_X2_pileFrom hS hd hdr hcu hsu h g) (px_s rfl (px_s rfl (px_s rfl (px_s rfl (px_s rfl (px_s rfl px_0))))))
    · replace h := it_f h c_32
      refine wx_aload_n dX2_pileFrom_35 rfl ?_
      refine wx_iload_n dX2_pileFrom_36 rfl ?_
      refine wx_iload dX2_pileFrom_37 rfl ?_
      obtain ⟨e_39, k_39, h⟩ := bd1_some h
      refine wx_cSi dX2_pileFrom_39 ml_X2_48 my_X2_evenCrease sv_X2_evenCrease (s_X2_evenCrease (d := d - 1) hS (by omega) k_39) rfl (by omega) (by exact Nat.le_of_ble_eq_true rfl) hcu hsu ?_
      refine wx_iload dX2_pileFrom_42 rfl ?_
      refine wx_iload_n dX2_pileFrom_44 rfl ?_
      obtain ⟨e_45, k_45, h⟩ := bd1_some h
      refine wx_cVi dX2_pileFrom_45 ml_X2_52 my_X2_sideWith iv_X2_sideWith (sc_1 hS) (by decide) (s_X2_sideWith (d := d - 1) hS (by omega) k_45) rfl (by omega) (by exact Nat.le_of_ble_eq_true rfl) hcu hsu ?_
      refine wx_istore (lv' := [(6, _), (0, _), (1, _), (2, _), (3, _), (4, _), (5, _)]) dX2_pileFrom_48 (by decide) rfl ?_
      refine wx_aload_n dX2_pileFrom_50 rfl ?_
      refine wx_iload dX2_pileFrom_51 rfl ?_
      refine wx_iload dX2_pileFrom_53 rfl ?_
      obtain ⟨e_55, k_55, h⟩ := bd1_some h
      refine wx_cSi dX2_pileFrom_55 ml_X2_56 my_X2_oddCrease sv_X2_oddCrease (s_X2_oddCrease (d := d - 1) hS (by omega) k_55) rfl (by omega) (by exact Nat.le_of_ble_eq_true rfl) hcu hsu ?_
      refine wx_iload dX2_pileFrom_58 rfl ?_
      refine wx_iload_n dX2_pileFrom_60 rfl ?_
      obtain ⟨e_61, k_61, h⟩ := bd1_some h
      refine wx_cVi dX2_pileFrom_61 ml_X2_52 my_X2_sideWith iv_X2_sideWith (sc_1 hS) (by decide) (s_X2_sideWith (d := d - 1) hS (by omega) k_61) rfl (by omega) (by exact Nat.le_of_ble_eq_true rfl) hcu hsu ?_
      refine wx_istore (lv' := [(7, _), (6, _), (0, _), (1, _), (2, _), (3, _), (4, _), (5, _)]) dX2_pileFrom_64 (by decide) rfl ?_
      refine wx_iload dX2_pileFrom_66 rfl ?_
      refine wx_iconst (v := (-1)) dX2_pileFrom_68 (by decide) ?_
      refine wx_icmp_eq (tgt := 103) dX2_pileFrom_69 (by decide) (fun c_69 => ?_) (fun c_69 => ?_)
      · replace h := it_t h c_69
        exact wx_sub (so_X2_pileFrom_103 h_X2_pileFrom hS hd hdr hcu hsu h g) (px_s rfl (px_s rfl (px_s rfl (px_s rfl (px_s rfl (px_s rfl px_0))))))
      · replace h := it_f h c_69
        refine wx_iload dX2_pileFrom_72 rfl ?_
        refine wx_iconst (v := (-1)) dX2_pileFrom_74 (by decide) ?_
        refine wx_icmp_eq (tgt := 103) dX2_pileFrom_75 (by decide) (fun c_75 => ?_) (fun c_75 => ?_)
        · replace h := it_t h c_75
          exact wx_sub (so_X2_pileFrom_103 h_X2_pileFrom hS hd hdr hcu hsu h g) (px_s rfl (px_s rfl (px_s rfl (px_s rfl (px_s rfl (px_s rfl px_0))))))
        · replace h := it_f h c_75
          refine wx_aload_n dX2_pileFrom_78 rfl ?_
          refine wx_getR dX2_pileFrom_79 fl_X2_18 (sc_1 hS) rfl (rr_1_6 hS) ?_
          refine wx_iload_n dX2_pileFrom_82 rfl ?_
          refine wx_iload dX2_pileFrom_83 rfl ?_
          obtain ⟨w_85, h⟩ := ok_some h
          refine wx_iast dX2_pileFrom_85 (sc_4 hS) (ix_in w_85) ?_
          refine wx_namM (fun M_85 q_85 => ?_)
          replace h := nm_at h q_85
          refine wx_aload_n dX2_pileFrom_86 rfl ?_
          refine wx_iload_n dX2_pileFrom_87 rfl ?_
          refine wx_iconst (v := 1) dX2_pileFrom_88 (by decide) ?_
          refine wx_iadd dX2_pileFrom_89 ?_
          refine wx_iload_n dX2_pileFrom_90 rfl ?_
          refine wx_iconst (v := 1) dX2_pileFrom_91 (by decide) ?_
          refine wx_iload dX2_pileFrom_92 rfl ?_
          refine wx_ishl dX2_pileFrom_94 ?_
          refine wx_ior dX2_pileFrom_95 ?_
          refine wx_iload dX2_pileFrom_96 rfl ?_
          refine wx_iload dX2_pileFrom_98 rfl ?_
          obtain ⟨e_100, k_100, h⟩ := bd1_some h
          refine wx_cVv dX2_pileFrom_100 ml_X2_37 my_X2_pileFrom iv_X2_pileFrom (sc_1 hS) (by decide) (h_X2_pileFrom (d := d - 1) hS (by omega) k_100) rfl (by omega) (by exact Nat.le_of_ble_eq_true rfl) hcu hsu ?_
          exact wx_sub (so_X2_pileFrom_103 h_X2_pileFrom hS hd hdr hcu hsu h g) (px_s rfl (px_s rfl (px_s rfl (px_s rfl (px_s rfl (px_s rfl px_0))))))
theorem so_X2_pileFrom_16 {dr : Nat} {r_X2_pileFrom : px_M → Int32 → Int32 → Int32 → Int32 → Option (px_M)} {x1 : Int32} {x2 : Int32} {x3 : Int32} {x4 : Int32} {x5 : Int32} {M : px_M} {L : px_L} {R : px_R} {e : (px_M)} (h_X2_pileFrom : ∀ {d : Nat} {X : Nat × (Nat → Int32)} {sh : px_Sh} {M : px_M} {L : px_L} {R : px_R} {n : Nat} {p1 : Int32} {p2 : Int32} {p3 : Int32} {p4 : Int32} {e : px_M}, SR sh R → dr ≤ d → r_X2_pileFrom M p1 p2 p3 p4 = some e → MX yX2_pileFrom cX2_pileFrom 8 none d 0 0 X [.ref 1, .int p1, .int p2, .int p3, .int p4] sh M L R n (px_pu none sh e L R n)) (hS : SR sh R) (hd : 2 ≤ d) (hdr : dr + 1 ≤ d) (hcu : cu ≤ mc) (hsu : su ≤ ms) (h : lpf (fun a : Int32 × px_M => o_X2_pileFrom_16 r_X2_pileFrom a.2 x1 x2 x3 x4 a.1) (x5, M) = some e) (g : WX RX2 cX2_pileFrom 8 none ("pileFrom", []) d mc ms X (px_QF Post mc ms) 109 [] [] sh e L R n cu su) : WX RX2 cX2_pileFrom 8 none ("pileFrom", []) d mc ms X (px_QF Post mc ms) 16 [(0, .ref 1), (1, .int x1), (2, .int x2), (3, .int x3), (4, .int x4), (5, .int x5)] [] sh M L R n cu su := by
  have key := lpf_wp (P := (fun a => WX RX2 cX2_pileFrom 8 none ("pileFrom", []) d mc ms X (px_QF Post mc ms) 16 [(0, .ref 1), (1, .int x1), (2, .int x2), (3, .int x3), (4, .int x4), (5, .int a.1)] [] sh (a.2) L R n cu su)) (G := (fun t => WX RX2 cX2_pileFrom 8 none ("pileFrom", []) d mc ms X (px_QF Post mc ms) 109 [] [] sh t L R n cu su)) (fun a r h g => so_X2_pileFrom_16b (x1 := x1) (x2 := x2) (x3 := x3) (x4 := x4) (x5 := a.1) (M := a.2) (L := L) (R := R) h_X2_pileFrom hS hd hdr hcu hsu h g) (a := (x5, M)) h g
  exact key
noncomputable def o_X2_pileFrom (r_X2_pileFrom : px_M → Int32 → Int32 → Int32 → Int32 → Option (px_M)) (M : px_M) (p1 : Int32) (p2 : Int32) (p3 : Int32) (p4 : Int32) : Option (px_M) :=
  if p1 < (M 1 0) then
    bd1 (lpf (fun a : Int32 × px_M => o_X2_pileFrom_16 r_X2_pileFrom a.2 p1 p2 p3 p4 a.1) (0, M)) fun e_16 =>
    some e_16
  else
    bd1 (f_X2_takeTrial M) fun e_9 =>
    some e_9
theorem so_X2_pileFrom {dr : Nat} {r_X2_pileFrom : px_M → Int32 → Int32 → Int32 → Int32 → Option (px_M)} {d : Nat} {X : Nat × (Nat → Int32)} {sh : px_Sh} {M : px_M} {L : px_L} {R : px_R} {n : Nat} {p1 : Int32} {p2 : Int32} {p3 : Int32} {p4 : Int32} {e : px_M} (h_X2_pileFrom : ∀ {d : Nat} {X : Nat × (Nat → Int32)} {sh : px_Sh} {M : px_M} {L : px_L} {R : px_R} {n : Nat} {p1 : Int32} {p2 : Int32} {p3 : Int32} {p4 : Int32} {e : px_M}, SR sh R → dr ≤ d → r_X2_pileFrom M p1 p2 p3 p4 = some e → MX yX2_pileFrom cX2_pileFrom 8 none d 0 0 X [.ref 1, .int p1, .int p2, .int p3, .int p4] sh M L R n (px_pu none sh e L R n)) (hS : SR sh R) (hd : 2 ≤ d) (hdr : dr + 1 ≤ d) (h : o_X2_pileFrom r_X2_pileFrom M p1 p2 p3 p4 = some e) : MX yX2_pileFrom cX2_pileFrom 8 none d 0 0 X [.ref 1, .int p1, .int p2, .int p3, .int p4] sh M L R n (px_pu none sh e L R n) := by
  refine MX.of (by decide +kernel) (by exact Nat.le_of_ble_eq_true rfl) ?_
  have hcu : 0 ≤ 0 := Nat.zero_le _
  have hsu : 0 ≤ 0 := Nat.zero_le _
  have g : px_pu none sh e L R n none sh e L R n := ⟨rfl, rfl, rfl, rfl, rfl, rfl⟩
  unfold o_X2_pileFrom at h
  refine wx_iload_n dX2_pileFrom_0 rfl ?_
  refine wx_aload_n dX2_pileFrom_1 rfl ?_
  refine wx_getI dX2_pileFrom_2 fl_X2_24 (sc_1 hS) rfl ?_
  refine wx_icmp_lt (tgt := 13) dX2_pileFrom_5 (by decide) (fun c_5 => ?_) (fun c_5 => ?_)
  · replace h := it_t h c_5
    refine wx_iconst (v := 0) dX2_pileFrom_13 (by decide) ?_
    refine wx_istore (lv' := [(5, _), (0, _), (1, _), (2, _), (3, _), (4, _)]) dX2_pileFrom_14 (by decide) rfl ?_
    obtain ⟨e_16, k_16, h⟩ := bd1_some h
    refine wx_sub (so_X2_pileFrom_16 h_X2_pileFrom hS hd hdr hcu hsu k_16 ?_) (px_s rfl (px_s rfl (px_s rfl (px_s rfl (px_s rfl (px_s rfl px_0))))))
    refine wx_vret dX2_pileFrom_109 hcu hsu ?_
    obtain rfl := Option.some.inj h
    exact g
  · replace h := it_f h c_5
    refine wx_aload_n dX2_pileFrom_8 rfl ?_
    obtain ⟨e_9, k_9, h⟩ := bd1_some h
    refine wx_cVv dX2_pileFrom_9 ml_X2_41 my_X2_takeTrial iv_X2_takeTrial (sc_1 hS) (by decide) (s_X2_takeTrial (d := d - 1) hS (by omega) k_9) rfl (by omega) (by exact Nat.le_of_ble_eq_true rfl) hcu hsu ?_
    refine wx_vret dX2_pileFrom_12 hcu hsu ?_
    obtain rfl := Option.some.inj h
    exact g
noncomputable def k_X2_pileFrom : Nat → px_M → Int32 → Int32 → Int32 → Int32 → Option (px_M)
  | 0 => fun _ _ _ _ _ => none
  | k + 1 => fun M p1 p2 p3 p4 => o_X2_pileFrom (k_X2_pileFrom k) M p1 p2 p3 p4
theorem sk_X2_pileFrom : ∀ (k : Nat) {d : Nat} {X : Nat × (Nat → Int32)} {sh : px_Sh} {M : px_M} {L : px_L} {R : px_R} {n : Nat} {p1 : Int32} {p2 : Int32} {p3 : Int32} {p4 : Int32} {e : px_M}, SR sh R → 2 + 1 * k ≤ d → k_X2_pileFrom k M p1 p2 p3 p4 = some e → MX yX2_pileFrom cX2_pileFrom 8 none d 0 0 X [.ref 1, .int p1, .int p2, .int p3, .int p4] sh M L R n (px_pu none sh e L R n)
  | 0, _, _, _, _, _, _, _, _, _, _, _, _, _, _, h => by cases h
  | k + 1, d, X, sh, M, L, R, n, p1, p2, p3, p4, e, hS, hd, h => so_X2_pileFrom (dr := 2 + 1 * k) (r_X2_pileFrom := k_X2_pileFrom k) (fun hS hd h => sk_X2_pileFrom k hS hd h) hS (by omega) (by omega) h
noncomputable def f_X2_pileFrom (M : px_M) (p1 : Int32) (p2 : Int32) (p3 : Int32) (p4 : Int32) : Option (px_M) := k_X2_pileFrom 10 M p1 p2 p3 p4
theorem s_X2_pileFrom {d : Nat} {X : Nat × (Nat → Int32)} {sh : px_Sh} {M : px_M} {L : px_L} {R : px_R} {n : Nat} {p1 : Int32} {p2 : Int32} {p3 : Int32} {p4 : Int32} {e : px_M} (hS : SR sh R) (hd : 12 ≤ d) (h : f_X2_pileFrom M p1 p2 p3 p4 = some e) : MX yX2_pileFrom cX2_pileFrom 8 none d 0 0 X [.ref 1, .int p1, .int p2, .int p3, .int p4] sh M L R n (px_pu none sh e L R n) := sk_X2_pileFrom 10 hS (by omega) h
noncomputable def f_X2_tell (M : px_M) (p1 : Int32) (p2 : Int32) : Option (Int32 × px_M) :=
  nm (px_u M 1 0 p1) fun M_2 =>
  nm (px_u M_2 1 1 p2) fun M_7 =>
  nm (px_u M_7 1 2 0) fun M_12 =>
  nm (px_u M_12 1 3 0) fun M_17 =>
  bd1 (f_X2_pileFrom M_17 0 0 0 0) fun e_25 =>
  some ((e_25 1 3), e_25)
theorem s_X2_tell {d : Nat} {X : Nat × (Nat → Int32)} {sh : px_Sh} {M : px_M} {L : px_L} {R : px_R} {n : Nat} {p1 : Int32} {p2 : Int32} {e : Int32 × px_M} (hS : SR sh R) (hd : 13 ≤ d) (h : f_X2_tell M p1 p2 = some e) : MX yX2_tell cX2_tell 3 (some .int) d 0 0 X [.ref 1, .int p1, .int p2] sh M L R n (px_pu (some (.int e.1)) sh e.2 L R n) := by
  refine MX.of (by decide +kernel) (by exact Nat.le_of_ble_eq_true rfl) ?_
  have hcu : 0 ≤ 0 := Nat.zero_le _
  have hsu : 0 ≤ 0 := Nat.zero_le _
  have g : px_pu (some (.int e.1)) sh e.2 L R n (some (.int e.1)) sh e.2 L R n := ⟨rfl, rfl, rfl, rfl, rfl, rfl⟩
  unfold f_X2_tell at h
  refine wx_aload_n dX2_tell_0 rfl ?_
  refine wx_iload_n dX2_tell_1 rfl ?_
  refine wx_putI dX2_tell_2 fl_X2_24 (sc_1 hS) (Or.inl rfl) rfl ⟨rfl, rfl⟩ ?_
  refine wx_namM (fun M_2 q_2 => ?_)
  replace h := nm_at h q_2
  refine wx_aload_n dX2_tell_5 rfl ?_
  refine wx_iload_n dX2_tell_6 rfl ?_
  refine wx_putI dX2_tell_7 fl_X2_28 (sc_1 hS) (Or.inl rfl) rfl ⟨rfl, rfl⟩ ?_
  refine wx_namM (fun M_7 q_7 => ?_)
  replace h := nm_at h q_7
  refine wx_aload_n dX2_tell_10 rfl ?_
  refine wx_iconst (v := 0) dX2_tell_11 (by decide) ?_
  refine wx_putI dX2_tell_12 fl_X2_31 (sc_1 hS) (Or.inl rfl) rfl ⟨rfl, rfl⟩ ?_
  refine wx_namM (fun M_12 q_12 => ?_)
  replace h := nm_at h q_12
  refine wx_aload_n dX2_tell_15 rfl ?_
  refine wx_iconst (v := 0) dX2_tell_16 (by decide) ?_
  refine wx_putI dX2_tell_17 fl_X2_34 (sc_1 hS) (Or.inl rfl) rfl ⟨rfl, rfl⟩ ?_
  refine wx_namM (fun M_17 q_17 => ?_)
  replace h := nm_at h q_17
  refine wx_aload_n dX2_tell_20 rfl ?_
  refine wx_iconst (v := 0) dX2_tell_21 (by decide) ?_
  refine wx_iconst (v := 0) dX2_tell_22 (by decide) ?_
  refine wx_iconst (v := 0) dX2_tell_23 (by decide) ?_
  refine wx_iconst (v := 0) dX2_tell_24 (by decide) ?_
  obtain ⟨e_25, k_25, h⟩ := bd1_some h
  refine wx_cVv dX2_tell_25 ml_X2_37 my_X2_pileFrom iv_X2_pileFrom (sc_1 hS) (by decide) (s_X2_pileFrom (d := d - 1) hS (by omega) k_25) rfl (by omega) (by exact Nat.le_of_ble_eq_true rfl) hcu hsu ?_
  refine wx_aload_n dX2_tell_28 rfl ?_
  refine wx_getI dX2_tell_29 fl_X2_34 (sc_1 hS) rfl ?_
  refine wx_iret dX2_tell_32 hcu hsu ?_
  obtain rfl := Option.some.inj h
  exact g
noncomputable def f_X2_isRowOfParts_17 (M : px_M) (x1 : Int32) (x2 : Int32) (x3 : Int32) : Option ((Int32 × Int32) ⊕ (Int32)) :=
  if (M 1 0) ≤ x3 then
    some (.inr x2)
  else
    nm (x2 ||| (1 <<< (((x1 >>> ((3 * x3) &&& 31)) &&& 7) &&& 31))) fun v_37 =>
    some (.inl (v_37, (x3 + 1)))
theorem s_X2_isRowOfParts_17b {x1 : Int32} {x2 : Int32} {x3 : Int32} {M : px_M} {L : px_L} {R : px_R} {e : ((Int32 × Int32) ⊕ (Int32))} (hS : SR sh R) (hd : 0 ≤ d) (hcu : cu ≤ mc) (hsu : su ≤ ms) (h : f_X2_isRowOfParts_17 M x1 x2 x3 = some e) (g : (sE (fun a => WX RX2 cX2_isRowOfParts 4 (some .boolean) ("isRowOfParts", []) d mc ms X (px_QF Post mc ms) 17 [(0, .ref 1), (1, .int x1), (2, .int a.1), (3, .int a.2)] [] sh M L R n cu su) (fun t => WX RX2 cX2_isRowOfParts 4 (some .boolean) ("isRowOfParts", []) d mc ms X (px_QF Post mc ms) 44 [(0, .ref 1), (2, .int t)] [] sh M L R n cu su)) e) : WX RX2 cX2_isRowOfParts 4 (some .boolean) ("isRowOfParts", []) d mc ms X (px_QF Post mc ms) 17 [(0, .ref 1), (1, .int x1), (2, .int x2), (3, .int x3)] [] sh M L R n cu su := by
  unfold f_X2_isRowOfParts_17 at h
  refine wx_iload_n dX2_isRowOfParts_17 rfl ?_
  refine wx_aload_n dX2_isRowOfParts_18 rfl ?_
  refine wx_getI dX2_isRowOfParts_19 fl_X2_24 (sc_1 hS) rfl ?_
  refine wx_icmp_ge (tgt := 44) dX2_isRowOfParts_22 (by decide) (fun c_22 => ?_) (fun c_22 => ?_)
  · replace h := it_t h c_22
    obtain rfl := Option.some.inj h
    replace g := sE_r g
    exact wx_sub g (px_s rfl (px_s rfl px_0))
  · replace h := it_f h c_22
    refine wx_iload_n dX2_isRowOfParts_25 rfl ?_
    refine wx_iconst (v := 1) dX2_isRowOfParts_26 (by decide) ?_
    refine wx_iload_n dX2_isRowOfParts_27 rfl ?_
    refine wx_iconst (v := 3) dX2_isRowOfParts_28 (by decide) ?_
    refine wx_iload_n dX2_isRowOfParts_29 rfl ?_
    refine wx_imul dX2_isRowOfParts_30 ?_
    refine wx_ishr dX2_isRowOfParts_31 ?_
    refine wx_bipush (v := 7) dX2_isRowOfParts_32 (by decide) ?_
    refine wx_iand dX2_isRowOfParts_34 ?_
    refine wx_ishl dX2_isRowOfParts_35 ?_
    refine wx_ior dX2_isRowOfParts_36 ?_
    refine wx_nami (fun v_37 q_37 => ?_)
    replace h := nm_at h q_37
    refine wx_istore_n (lv' := [(2, _), (0, _), (1, _), (3, _)]) dX2_isRowOfParts_37 (by decide) rfl ?_
    refine wx_iinc (lv' := [(3, _), (2, _), (0, _), (1, _)]) dX2_isRowOfParts_38 rfl (i_1 _) (by decide) rfl ?_
    refine wx_goto (tgt := 17) dX2_isRowOfParts_41 (by decide) ?_
    obtain rfl := Option.some.inj h
    replace g := sE_l g
    exact wx_sub g (px_s rfl (px_s rfl (px_s rfl (px_s rfl px_0))))
theorem s_X2_isRowOfParts_17 {x1 : Int32} {x2 : Int32} {x3 : Int32} {M : px_M} {L : px_L} {R : px_R} {e : (Int32)} (hS : SR sh R) (hd : 0 ≤ d) (hcu : cu ≤ mc) (hsu : su ≤ ms) (h : lpf (fun a : Int32 × Int32 => f_X2_isRowOfParts_17 M x1 a.1 a.2) (x2, x3) = some e) (g : WX RX2 cX2_isRowOfParts 4 (some .boolean) ("isRowOfParts", []) d mc ms X (px_QF Post mc ms) 44 [(0, .ref 1), (2, .int e)] [] sh M L R n cu su) : WX RX2 cX2_isRowOfParts 4 (some .boolean) ("isRowOfParts", []) d mc ms X (px_QF Post mc ms) 17 [(0, .ref 1), (1, .int x1), (2, .int x2), (3, .int x3)] [] sh M L R n cu su := by
  have key := lpf_wp (P := (fun a => WX RX2 cX2_isRowOfParts 4 (some .boolean) ("isRowOfParts", []) d mc ms X (px_QF Post mc ms) 17 [(0, .ref 1), (1, .int x1), (2, .int a.1), (3, .int a.2)] [] sh M L R n cu su)) (G := (fun t => WX RX2 cX2_isRowOfParts 4 (some .boolean) ("isRowOfParts", []) d mc ms X (px_QF Post mc ms) 44 [(0, .ref 1), (2, .int t)] [] sh M L R n cu su)) (fun a r h g => s_X2_isRowOfParts_17b (x1 := x1) (x2 := a.1) (x3 := a.2) (M := M) (L := L) (R := R) hS hd hcu hsu h g) (a := (x2, x3)) h g
  exact key
noncomputable def f_X2_isRowOfParts_61 (M : px_M) (z0 : Int32) : Option (Int32) :=
  ok (zb z0) <|
  some z0
theorem s_X2_isRowOfParts_61 {z0 : Int32} {M : px_M} {L : px_L} {R : px_R} {e : (Int32)} (hS : SR sh R) (hd : 0 ≤ d) (hcu : cu ≤ mc) (hsu : su ≤ ms) (h : f_X2_isRowOfParts_61 M z0 = some e) (g : Post (some (.int e)) sh M L R n) : WX RX2 cX2_isRowOfParts 4 (some .boolean) ("isRowOfParts", []) d mc ms X (px_QF Post mc ms) 61 [] [.int z0] sh M L R n cu su := by
  unfold f_X2_isRowOfParts_61 at h
  obtain ⟨w_61, h⟩ := ok_some h
  refine wx_zret dX2_isRowOfParts_61 (zb_n w_61) hcu hsu ?_
  obtain rfl := Option.some.inj h
  exact g
noncomputable def f_X2_isRowOfParts (M : px_M) (p1 : Int32) : Option (Int32) :=
  if (((p1 : Int32).toUInt32 >>> (((3 * (M 1 0)) : Int32).toUInt32 &&& Int32.toUInt32 31)).toInt32) = 0 then
    bd1 (lpf (fun a : Int32 × Int32 => f_X2_isRowOfParts_17 M p1 a.1 a.2) (0, 0)) fun e_17 =>
    if e_17 = ((1 <<< ((M 1 0) &&& 31)) - 1) then
      f_X2_isRowOfParts_61 M 1
    else
      f_X2_isRowOfParts_61 M 0
  else
    some 0
theorem s_X2_isRowOfParts {d : Nat} {X : Nat × (Nat → Int32)} {sh : px_Sh} {M : px_M} {L : px_L} {R : px_R} {n : Nat} {p1 : Int32} {e : Int32} (hS : SR sh R) (hd : 0 ≤ d) (h : f_X2_isRowOfParts M p1 = some e) : MX yX2_isRowOfParts cX2_isRowOfParts 4 (some .boolean) d 0 0 X [.ref 1, .int p1] sh M L R n (px_pu (some (.int e)) sh M L R n) := by
  refine MX.of (by decide +kernel) (by exact Nat.le_of_ble_eq_true rfl) ?_
  have hcu : 0 ≤ 0 := Nat.zero_le _
  have hsu : 0 ≤ 0 := Nat.zero_le _
  have g : px_pu (some (.int e)) sh M L R n (some (.int e)) sh M L R n := ⟨rfl, rfl, rfl, rfl, rfl, rfl⟩
  unfold f_X2_isRowOfParts at h
  refine wx_iload_n dX2_isRowOfParts_0 rfl ?_
  refine wx_iconst (v := 3) dX2_isRowOfParts_1 (by decide) ?_
  refine wx_aload_n dX2_isRowOfParts_2 rfl ?_
  refine wx_getI dX2_isRowOfParts_3 fl_X2_24 (sc_1 hS) rfl ?_
  refine wx_imul dX2_isRowOfParts_6 ?_
  refine wx_iushr dX2_isRowOfParts_7 ?_
  refine wx_if_eq (tgt := 13) dX2_isRowOfParts_8 (by decide) (fun c_8 => ?_) (fun c_8 => ?_)
  · replace h := it_t h c_8
    refine wx_iconst (v := 0) dX2_isRowOfParts_13 (by decide) ?_
    refine wx_istore_n (lv' := [(2, _), (0, _), (1, _)]) dX2_isRowOfParts_14 (by decide) rfl ?_
    refine wx_iconst (v := 0) dX2_isRowOfParts_15 (by decide) ?_
    refine wx_istore_n (lv' := [(3, _), (2, _), (0, _), (1, _)]) dX2_isRowOfParts_16 (by decide) rfl ?_
    obtain ⟨e_17, k_17, h⟩ := bd1_some h
    refine wx_sub (s_X2_isRowOfParts_17 hS hd hcu hsu k_17 ?_) (px_s rfl (px_s rfl (px_s rfl (px_s rfl px_0))))
    refine wx_iload_n dX2_isRowOfParts_44 rfl ?_
    refine wx_iconst (v := 1) dX2_isRowOfParts_45 (by decide) ?_
    refine wx_aload_n dX2_isRowOfParts_46 rfl ?_
    refine wx_getI dX2_isRowOfParts_47 fl_X2_24 (sc_1 hS) rfl ?_
    refine wx_ishl dX2_isRowOfParts_50 ?_
    refine wx_iconst (v := 1) dX2_isRowOfParts_51 (by decide) ?_
    refine wx_isub dX2_isRowOfParts_52 ?_
    refine wx_icmp_ne (tgt := 60) dX2_isRowOfParts_53 (by decide) (fun c_53 => ?_) (fun c_53 => ?_)
    · replace h := it_f h c_53
      refine wx_iconst (v := 0) dX2_isRowOfParts_60 (by decide) ?_
      exact wx_sub (s_X2_isRowOfParts_61 hS hd hcu hsu h g) px_0
    · replace h := it_t h c_53
      refine wx_iconst (v := 1) dX2_isRowOfParts_56 (by decide) ?_
      refine wx_goto (tgt := 61) dX2_isRowOfParts_57 (by decide) ?_
      exact wx_sub (s_X2_isRowOfParts_61 hS hd hcu hsu h g) px_0
  · replace h := it_f h c_8
    refine wx_iconst (v := 0) dX2_isRowOfParts_11 (by decide) ?_
    refine wx_zret dX2_isRowOfParts_12 rfl hcu hsu ?_
    obtain rfl := Option.some.inj h
    exact g
noncomputable def f_X2_liesSo_10 (M : px_M) (x1 : Int32) (x2 : Int32) (x3 : Int32) (x4 : Int32) (x5 : Int32) : Option ((Int32 × Int32 × Int32 × Int32) ⊕ ((Unit) ⊕ ((Unit) ⊕ (Unit)))) :=
  if (M 1 0) ≤ x5 then
    some (.inr (.inr (.inr ())))
  else
    nm ((x1 >>> ((3 * x5) &&& 31)) &&& 7) fun v_28 =>
    bd1 (f_X2_mayCome M v_28 x2) fun e_34 =>
    if e_34 = 0 then
      some (.inr (.inl ()))
    else
      bd1 (f_X2_evenCrease v_28) fun e_46 =>
      bd1 (f_X2_sideWith M x3 e_46 v_28 x2) fun e_52 =>
      bd1 (f_X2_oddCrease v_28) fun e_61 =>
      bd1 (f_X2_sideWith M x4 e_61 v_28 x2) fun e_67 =>
      if e_52 = (-1) then
        some (.inr (.inr (.inl ())))
      else
        if e_67 = (-1) then
          some (.inr (.inr (.inl ())))
        else
          nm (x2 ||| (1 <<< (v_28 &&& 31))) fun v_91 =>
          some (.inl (v_91, e_52, e_67, (x5 + 1)))
theorem s_X2_liesSo_10b {x1 : Int32} {x2 : Int32} {x3 : Int32} {x4 : Int32} {x5 : Int32} {M : px_M} {L : px_L} {R : px_R} {e : ((Int32 × Int32 × Int32 × Int32) ⊕ ((Unit) ⊕ ((Unit) ⊕ (Unit))))} (hS : SR sh R) (hd : 2 ≤ d) (hcu : cu ≤ mc) (hsu : su ≤ ms) (h : f_X2_liesSo_10 M x1 x2 x3 x4 x5 = some e) (g : (sE (fun a => WX RX2 cX2_liesSo 7 (some .boolean) ("liesSo", []) d mc ms X (px_QF Post mc ms) 10 [(0, .ref 1), (1, .int x1), (2, .int a.1), (3, .int a.2.1), (4, .int a.2.2.1), (5, .int a.2.2.2)] [] sh M L R n cu su) (sE (fun t => WX RX2 cX2_liesSo 7 (some .boolean) ("liesSo", []) d mc ms X (px_QF Post mc ms) 40 [] [] sh M L R n cu su) (sE (fun t => WX RX2 cX2_liesSo 7 (some .boolean) ("liesSo", []) d mc ms X (px_QF Post mc ms) 83 [] [] sh M L R n cu su) (fun t => WX RX2 cX2_liesSo 7 (some .boolean) ("liesSo", []) d mc ms X (px_QF Post mc ms) 98 [] [] sh M L R n cu su)))) e) : WX RX2 cX2_liesSo 7 (some .boolean) ("liesSo", []) d mc ms X (px_QF Post mc ms) 10 [(0, .ref 1), (1, .int x1), (2, .int x2), (3, .int x3), (4, .int x4), (5, .int x5)] [] sh M L R n cu su := by
  unfold f_X2_liesSo_10 at h
  refine wx_iload dX2_liesSo_10 rfl ?_
  refine wx_aload_n dX2_liesSo_12 rfl ?_
  refine wx_getI dX2_liesSo_13 fl_X2_24 (sc_1 hS) rfl ?_
  refine wx_icmp_ge (tgt := 98) dX2_liesSo_16 (by decide) (fun c_16 => ?_) (fun c_16 => ?_)
  · replace h := it_t h c_16
    obtain rfl := Option.some.inj h
    replace g := sE_r (sE_r (sE_r g))
    exact wx_sub g px_0
  · replace h := it_f h c_16
    refine wx_iload_n dX2_liesSo_19 rfl ?_
    refine wx_iconst (v := 3) dX2_liesSo_20 (by decide) ?_
    refine wx_iload dX2_liesSo_21 rfl ?_
    refine wx_imul dX2_liesSo_23 ?_
    refine wx_ishr dX2_liesSo_24 ?_
    refine wx_bipush (v := 7) dX2_liesSo_25 (by decide) ?_
    refine wx_iand dX2_liesSo_27 ?_
    refine wx_nami (fun v_28 q_28 => ?_)
    replace h := nm_at h q_28
    refine wx_istore (lv' := [(6, _), (0, _), (1, _), (2, _), (3, _), (4, _), (5, _)]) dX2_liesSo_28 (by decide) rfl ?_
    refine wx_aload_n dX2_liesSo_30 rfl ?_
    refine wx_iload dX2_liesSo_31 rfl ?_
    refine wx_iload_n dX2_liesSo_33 rfl ?_
    obtain ⟨e_34, k_34, h⟩ := bd1_some h
    refine wx_cVi dX2_liesSo_34 ml_X2_44 my_X2_mayCome iv_X2_mayCome (sc_1 hS) (by decide) (s_X2_mayCome (d := d - 1) hS (by omega) k_34) rfl (by omega) (by exact Nat.le_of_ble_eq_true rfl) hcu hsu ?_
    refine wx_if_ne (tgt := 42) dX2_liesSo_37 (by decide) (fun c_37 => ?_) (fun c_37 => ?_)
    · replace h := it_f h c_37
      refine wx_aload_n dX2_liesSo_42 rfl ?_
      refine wx_iload_n dX2_liesSo_43 rfl ?_
      refine wx_iload dX2_liesSo_44 rfl ?_
      obtain ⟨e_46, k_46, h⟩ := bd1_some h
      refine wx_cSi dX2_liesSo_46 ml_X2_48 my_X2_evenCrease sv_X2_evenCrease (s_X2_evenCrease (d := d - 1) hS (by omega) k_46) rfl (by omega) (by exact Nat.le_of_ble_eq_true rfl) hcu hsu ?_
      refine wx_iload dX2_liesSo_49 rfl ?_
      refine wx_iload_n dX2_liesSo_51 rfl ?_
      obtain ⟨e_52, k_52, h⟩ := bd1_some h
      refine wx_cVi dX2_liesSo_52 ml_X2_52 my_X2_sideWith iv_X2_sideWith (sc_1 hS) (by decide) (s_X2_sideWith (d := d - 1) hS (by omega) k_52) rfl (by omega) (by exact Nat.le_of_ble_eq_true rfl) hcu hsu ?_
      refine wx_istore_n (lv' := [(3, _), (6, _), (0, _), (1, _), (2, _), (4, _), (5, _)]) dX2_liesSo_55 (by decide) rfl ?_
      refine wx_aload_n dX2_liesSo_56 rfl ?_
      refine wx_iload dX2_liesSo_57 rfl ?_
      refine wx_iload dX2_liesSo_59 rfl ?_
      obtain ⟨e_61, k_61, h⟩ := bd1_some h
      refine wx_cSi dX2_liesSo_61 ml_X2_56 my_X2_oddCrease sv_X2_oddCrease (s_X2_oddCrease (d := d - 1) hS (by omega) k_61) rfl (by omega) (by exact Nat.le_of_ble_eq_true rfl) hcu hsu ?_
      refine wx_iload dX2_liesSo_64 rfl ?_
      refine wx_iload_n dX2_liesSo_66 rfl ?_
      obtain ⟨e_67, k_67, h⟩ := bd1_some h
      refine wx_cVi dX2_liesSo_67 ml_X2_52 my_X2_sideWith iv_X2_sideWith (sc_1 hS) (by decide) (s_X2_sideWith (d := d - 1) hS (by omega) k_67) rfl (by omega) (by exact Nat.le_of_ble_eq_true rfl) hcu hsu ?_
      refine wx_istore (lv' := [(4, _), (3, _), (6, _), (0, _), (1, _), (2, _), (5, _)]) dX2_liesSo_70 (by decide) rfl ?_
      refine wx_iload_n dX2_liesSo_72 rfl ?_
      refine wx_iconst (v := (-1)) dX2_liesSo_73 (by decide) ?_
      refine wx_icmp_eq (tgt := 83) dX2_liesSo_74 (by decide) (fun c_74 => ?_) (fun c_74 => ?_)
      · replace h := it_t h c_74
        obtain rfl := Option.some.inj h
        replace g := sE_l (sE_r (sE_r g))
        exact wx_sub g px_0
      · replace h := it_f h c_74
        refine wx_iload dX2_liesSo_77 rfl ?_
        refine wx_iconst (v := (-1)) dX2_liesSo_79 (by decide) ?_
        refine wx_icmp_ne (tgt := 85) dX2_liesSo_80 (by decide) (fun c_80 => ?_) (fun c_80 => ?_)
        · replace h := it_f h c_80
          refine wx_iload_n dX2_liesSo_85 rfl ?_
          refine wx_iconst (v := 1) dX2_liesSo_86 (by decide) ?_
          refine wx_iload dX2_liesSo_87 rfl ?_
          refine wx_ishl dX2_liesSo_89 ?_
          refine wx_ior dX2_liesSo_90 ?_
          refine wx_nami (fun v_91 q_91 => ?_)
          replace h := nm_at h q_91
          refine wx_istore_n (lv' := [(2, _), (4, _), (3, _), (6, _), (0, _), (1, _), (5, _)]) dX2_liesSo_91 (by decide) rfl ?_
          refine wx_iinc (lv' := [(5, _), (2, _), (4, _), (3, _), (6, _), (0, _), (1, _)]) dX2_liesSo_92 rfl (i_1 _) (by decide) rfl ?_
          refine wx_goto (tgt := 10) dX2_liesSo_95 (by decide) ?_
          obtain rfl := Option.some.inj h
          replace g := sE_l g
          exact wx_sub g (px_s rfl (px_s rfl (px_s rfl (px_s rfl (px_s rfl (px_s rfl px_0))))))
        · replace h := it_t h c_80
          obtain rfl := Option.some.inj h
          replace g := sE_l (sE_r (sE_r g))
          exact wx_sub g px_0
    · replace h := it_t h c_37
      obtain rfl := Option.some.inj h
      replace g := sE_l (sE_r g)
      exact wx_sub g px_0
theorem s_X2_liesSo_10 {x1 : Int32} {x2 : Int32} {x3 : Int32} {x4 : Int32} {x5 : Int32} {M : px_M} {L : px_L} {R : px_R} {e : ((Unit) ⊕ ((Unit) ⊕ (Unit)))} (hS : SR sh R) (hd : 2 ≤ d) (hcu : cu ≤ mc) (hsu : su ≤ ms) (h : lpf (fun a : Int32 × Int32 × Int32 × Int32 => f_X2_liesSo_10 M x1 a.1 a.2.1 a.2.2.1 a.2.2.2) (x2, x3, x4, x5) = some e) (g : (sE (fun t => WX RX2 cX2_liesSo 7 (some .boolean) ("liesSo", []) d mc ms X (px_QF Post mc ms) 40 [] [] sh M L R n cu su) (sE (fun t => WX RX2 cX2_liesSo 7 (some .boolean) ("liesSo", []) d mc ms X (px_QF Post mc ms) 83 [] [] sh M L R n cu su) (fun t => WX RX2 cX2_liesSo 7 (some .boolean) ("liesSo", []) d mc ms X (px_QF Post mc ms) 98 [] [] sh M L R n cu su))) e) : WX RX2 cX2_liesSo 7 (some .boolean) ("liesSo", []) d mc ms X (px_QF Post mc ms) 10 [(0, .ref 1), (1, .int x1), (2, .int x2), (3, .int x3), (4, .int x4), (5, .int x5)] [] sh M L R n cu su := by
  have key := lpf_wp (P := (fun a => WX RX2 cX2_liesSo 7 (some .boolean) ("liesSo", []) d mc ms X (px_QF Post mc ms) 10 [(0, .ref 1), (1, .int x1), (2, .int a.1), (3, .int a.2.1), (4, .int a.2.2.1), (5, .int a.2.2.2)] [] sh M L R n cu su)) (G := (sE (fun t => WX RX2 cX2_liesSo 7 (some .boolean) ("liesSo", []) d mc ms X (px_QF Post mc ms) 40 [] [] sh M L R n cu su) (sE (fun t => WX RX2 cX2_liesSo 7 (some .boolean) ("liesSo", []) d mc ms X (px_QF Post mc ms) 83 [] [] sh M L R n cu su) (fun t => WX RX2 cX2_liesSo 7 (some .boolean) ("liesSo", []) d mc ms X (px_QF Post mc ms) 98 [] [] sh M L R n cu su)))) (fun a r h g => s_X2_liesSo_10b (x1 := x1) (x2 := a.1) (x3 := a.2.1) (x4 := a.2.2.1) (x5 := a.2.2.2) (M := M) (L := L) (R := R) hS hd hcu hsu h g) (a := (x2, x3, x4, x5)) h g
  exact key
noncomputable def f_X2_liesSo (M : px_M) (p1 : Int32) : Option (Int32) :=
  bdS (lpf (fun a : Int32 × Int32 × Int32 × Int32 => f_X2_liesSo_10 M p1 a.1 a.2.1 a.2.2.1 a.2.2.2) (0, 0, 0, 0)) (fun t_10_0 =>
  some 0) (fun u_10_0 =>
  bdS (some u_10_0) (fun t_10_1 =>
    some 0) (fun u_10_1 =>
    some 1))
theorem s_X2_liesSo {d : Nat} {X : Nat × (Nat → Int32)} {sh : px_Sh} {M : px_M} {L : px_L} {R : px_R} {n : Nat} {p1 : Int32} {e : Int32} (hS : SR sh R) (hd : 2 ≤ d) (h : f_X2_liesSo M p1 = some e) : MX yX2_liesSo cX2_liesSo 7 (some .boolean) d 0 0 X [.ref 1, .int p1] sh M L R n (px_pu (some (.int e)) sh M L R n) := by
  refine MX.of (by decide +kernel) (by exact Nat.le_of_ble_eq_true rfl) ?_
  have hcu : 0 ≤ 0 := Nat.zero_le _
  have hsu : 0 ≤ 0 := Nat.zero_le _
  have g : px_pu (some (.int e)) sh M L R n (some (.int e)) sh M L R n := ⟨rfl, rfl, rfl, rfl, rfl, rfl⟩
  unfold f_X2_liesSo at h
  refine wx_iconst (v := 0) dX2_liesSo_0 (by decide) ?_
  refine wx_istore_n (lv' := [(2, _), (0, _), (1, _)]) dX2_liesSo_1 (by decide) rfl ?_
  refine wx_iconst (v := 0) dX2_liesSo_2 (by decide) ?_
  refine wx_istore_n (lv' := [(3, _), (2, _), (0, _), (1, _)]) dX2_liesSo_3 (by decide) rfl ?_
  refine wx_iconst (v := 0) dX2_liesSo_4 (by decide) ?_
  refine wx_istore (lv' := [(4, _), (3, _), (2, _), (0, _), (1, _)]) dX2_liesSo_5 (by decide) rfl ?_
  refine wx_iconst (v := 0) dX2_liesSo_7 (by decide) ?_
  refine wx_istore (lv' := [(5, _), (4, _), (3, _), (2, _), (0, _), (1, _)]) dX2_liesSo_8 (by decide) rfl ?_
  rcases bdS_some h with ⟨t_10_0, k_10_0, h⟩ | ⟨u_10_0, k_10_0, h⟩
  · refine wx_sub (s_X2_liesSo_10 hS hd hcu hsu k_10_0 (sE_li ?_)) (px_s rfl (px_s rfl (px_s rfl (px_s rfl (px_s rfl (px_s rfl px_0))))))
    refine wx_iconst (v := 0) dX2_liesSo_40 (by decide) ?_
    refine wx_zret dX2_liesSo_41 rfl hcu hsu ?_
    obtain rfl := Option.some.inj h
    exact g
  · rcases bdS_some h with ⟨t_10_1, k_10_1, h⟩ | ⟨u_10_1, k_10_1, h⟩
    · obtain rfl := Option.some.inj k_10_1
      refine wx_sub (s_X2_liesSo_10 hS hd hcu hsu k_10_0 (sE_ri (sE_li ?_))) (px_s rfl (px_s rfl (px_s rfl (px_s rfl (px_s rfl (px_s rfl px_0))))))
      refine wx_iconst (v := 0) dX2_liesSo_83 (by decide) ?_
      refine wx_zret dX2_liesSo_84 rfl hcu hsu ?_
      obtain rfl := Option.some.inj h
      exact g
    · obtain rfl := Option.some.inj k_10_1
      refine wx_sub (s_X2_liesSo_10 hS hd hcu hsu k_10_0 (sE_ri (sE_ri ?_))) (px_s rfl (px_s rfl (px_s rfl (px_s rfl (px_s rfl (px_s rfl px_0))))))
      refine wx_iconst (v := 1) dX2_liesSo_98 (by decide) ?_
      refine wx_zret dX2_liesSo_99 rfl hcu hsu ?_
      obtain rfl := Option.some.inj h
      exact g
noncomputable def f_X2_isOpen_14 (z0 : Int32) : Option (Int32) :=
  ok (zb z0) <|
  some z0
theorem s_X2_isOpen_14 {z0 : Int32} {M : px_M} {L : px_L} {R : px_R} {e : (Int32)} (hS : SR sh R) (hd : 0 ≤ d) (hcu : cu ≤ mc) (hsu : su ≤ ms) (h : f_X2_isOpen_14 z0 = some e) (g : Post (some (.int e)) sh M L R n) : WX RX2 cX2_isOpen 3 (some .boolean) ("isOpen", []) d mc ms X (px_QF Post mc ms) 14 [] [.int z0] sh M L R n cu su := by
  unfold f_X2_isOpen_14 at h
  obtain ⟨w_14, h⟩ := ok_some h
  refine wx_zret dX2_isOpen_14 (zb_n w_14) hcu hsu ?_
  obtain rfl := Option.some.inj h
  exact g
noncomputable def f_X2_isOpen (p1 : Int32) (p2 : Int32) : Option (Int32) :=
  if ((p2 >>> (p1 &&& 31)) &&& 1) = 1 then
    f_X2_isOpen_14 1
  else
    f_X2_isOpen_14 0
theorem s_X2_isOpen {d : Nat} {X : Nat × (Nat → Int32)} {sh : px_Sh} {M : px_M} {L : px_L} {R : px_R} {n : Nat} {p1 : Int32} {p2 : Int32} {e : Int32} (hS : SR sh R) (hd : 0 ≤ d) (h : f_X2_isOpen p1 p2 = some e) : MX yX2_isOpen cX2_isOpen 3 (some .boolean) d 0 0 X [.ref 1, .int p1, .int p2] sh M L R n (px_pu (some (.int e)) sh M L R n) := by
  refine MX.of (by decide +kernel) (by exact Nat.le_of_ble_eq_true rfl) ?_
  have hcu : 0 ≤ 0 := Nat.zero_le _
  have hsu : 0 ≤ 0 := Nat.zero_le _
  have g : px_pu (some (.int e)) sh M L R n (some (.int e)) sh M L R n := ⟨rfl, rfl, rfl, rfl, rfl, rfl⟩
  unfold f_X2_isOpen at h
  refine wx_iload_n dX2_isOpen_0 rfl ?_
  refine wx_iload_n dX2_isOpen_1 rfl ?_
  refine wx_ishr dX2_isOpen_2 ?_
  refine wx_iconst (v := 1) dX2_isOpen_3 (by decide) ?_
  refine wx_iand dX2_isOpen_4 ?_
  refine wx_iconst (v := 1) dX2_isOpen_5 (by decide) ?_
  refine wx_icmp_ne (tgt := 13) dX2_isOpen_6 (by decide) (fun c_6 => ?_) (fun c_6 => ?_)
  · replace h := it_f h c_6
    refine wx_iconst (v := 0) dX2_isOpen_13 (by decide) ?_
    exact wx_sub (s_X2_isOpen_14 hS hd hcu hsu h g) px_0
  · replace h := it_t h c_6
    refine wx_iconst (v := 1) dX2_isOpen_9 (by decide) ?_
    refine wx_goto (tgt := 14) dX2_isOpen_10 (by decide) ?_
    exact wx_sub (s_X2_isOpen_14 hS hd hcu hsu h g) px_0
noncomputable def f_X2_isAbove_39 (M : px_M) (x4 : Int32) (x5 : Int32) (x6 : Int32) (x7 : Int32) : Option ((Int32 × Int32) ⊕ (Int32)) :=
  if x4 < x7 then
    some (.inr x6)
  else
    ok (ix x7 8) <|
    bd1 (f_J9_max_7cf53 x6 (M 3 x7.toNatClampNeg)) fun e_55 =>
    some (.inl (e_55, (x7 + 1)))
theorem s_X2_isAbove_39b {x4 : Int32} {x5 : Int32} {x6 : Int32} {x7 : Int32} {M : px_M} {L : px_L} {R : px_R} {e : ((Int32 × Int32) ⊕ (Int32))} (hS : SR sh R) (hd : 1 ≤ d) (hcu : cu ≤ mc) (hsu : su ≤ ms) (h : f_X2_isAbove_39 M x4 x5 x6 x7 = some e) (g : (sE (fun a => WX RX2 cX2_isAbove 8 (some .boolean) ("isAbove", []) d mc ms X (px_QF Post mc ms) 39 [(0, .ref 1), (4, .int x4), (5, .int x5), (6, .int a.1), (7, .int a.2)] [] sh M L R n cu su) (fun t => WX RX2 cX2_isAbove 8 (some .boolean) ("isAbove", []) d mc ms X (px_QF Post mc ms) 66 [(5, .int x5), (6, .int t)] [] sh M L R n cu su)) e) : WX RX2 cX2_isAbove 8 (some .boolean) ("isAbove", []) d mc ms X (px_QF Post mc ms) 39 [(0, .ref 1), (4, .int x4), (5, .int x5), (6, .int x6), (7, .int x7)] [] sh M L R n cu su := by
  unfold f_X2_isAbove_39 at h
  refine wx_iload dX2_isAbove_39 rfl ?_
  refine wx_iload dX2_isAbove_41 rfl ?_
  refine wx_icmp_gt (tgt := 66) dX2_isAbove_43 (by decide) (fun c_43 => ?_) (fun c_43 => ?_)
  · replace h := it_t h c_43
    obtain rfl := Option.some.inj h
    replace g := sE_r g
    exact wx_sub g (px_s rfl (px_s rfl px_0))
  · replace h := it_f h c_43
    refine wx_iload dX2_isAbove_46 rfl ?_
    refine wx_aload_n dX2_isAbove_48 rfl ?_
    refine wx_getR dX2_isAbove_49 fl_X2_15 (sc_1 hS) rfl (rr_1_5 hS) ?_
    refine wx_iload dX2_isAbove_52 rfl ?_
    obtain ⟨w_54, h⟩ := ok_some h
    refine wx_iald dX2_isAbove_54 (sc_3 hS) (ix_in w_54) ?_
    obtain ⟨e_55, k_55, h⟩ := bd1_some h
    refine wx_cSi dX2_isAbove_55 ml_X2_76 my_J9_max_7cf53 sv_J9_max_7cf53 (s_J9_max_7cf53 (d := d - 1) hS (by omega) k_55) rfl (by omega) (by exact Nat.le_of_ble_eq_true rfl) hcu hsu ?_
    refine wx_istore (lv' := [(6, _), (0, _), (4, _), (5, _), (7, _)]) dX2_isAbove_58 (by decide) rfl ?_
    refine wx_iinc (lv' := [(7, _), (6, _), (0, _), (4, _), (5, _)]) dX2_isAbove_60 rfl (i_1 _) (by decide) rfl ?_
    refine wx_goto (tgt := 39) dX2_isAbove_63 (by decide) ?_
    obtain rfl := Option.some.inj h
    replace g := sE_l g
    exact wx_sub g (px_s rfl (px_s rfl (px_s rfl (px_s rfl (px_s rfl px_0)))))
theorem s_X2_isAbove_39 {x4 : Int32} {x5 : Int32} {x6 : Int32} {x7 : Int32} {M : px_M} {L : px_L} {R : px_R} {e : (Int32)} (hS : SR sh R) (hd : 1 ≤ d) (hcu : cu ≤ mc) (hsu : su ≤ ms) (h : lpf (fun a : Int32 × Int32 => f_X2_isAbove_39 M x4 x5 a.1 a.2) (x6, x7) = some e) (g : WX RX2 cX2_isAbove 8 (some .boolean) ("isAbove", []) d mc ms X (px_QF Post mc ms) 66 [(5, .int x5), (6, .int e)] [] sh M L R n cu su) : WX RX2 cX2_isAbove 8 (some .boolean) ("isAbove", []) d mc ms X (px_QF Post mc ms) 39 [(0, .ref 1), (4, .int x4), (5, .int x5), (6, .int x6), (7, .int x7)] [] sh M L R n cu su := by
  have key := lpf_wp (P := (fun a => WX RX2 cX2_isAbove 8 (some .boolean) ("isAbove", []) d mc ms X (px_QF Post mc ms) 39 [(0, .ref 1), (4, .int x4), (5, .int x5), (6, .int a.1), (7, .int a.2)] [] sh M L R n cu su)) (G := (fun t => WX RX2 cX2_isAbove 8 (some .boolean) ("isAbove", []) d mc ms X (px_QF Post mc ms) 66 [(5, .int x5), (6, .int t)] [] sh M L R n cu su)) (fun a r h g => s_X2_isAbove_39b (x4 := x4) (x5 := x5) (x6 := a.1) (x7 := a.2) (M := M) (L := L) (R := R) hS hd hcu hsu h g) (a := (x6, x7)) h g
  exact key
noncomputable def f_X2_isAbove_7 (M : px_M) (x2 : Int32) (x3 : Int32) (x4 : Int32) (x5 : Int32) (x6 : Int32) : Option ((Int32 × Int32) ⊕ (Int32)) :=
  if x2 < x6 then
    some (.inr x5)
  else
    ok (ix x6 8) <|
    bd1 (f_J9_min_7cf53 x5 (M 3 x6.toNatClampNeg)) fun e_22 =>
    some (.inl (e_22, (x6 + 1)))
theorem s_X2_isAbove_7b {x2 : Int32} {x3 : Int32} {x4 : Int32} {x5 : Int32} {x6 : Int32} {M : px_M} {L : px_L} {R : px_R} {e : ((Int32 × Int32) ⊕ (Int32))} (hS : SR sh R) (hd : 1 ≤ d) (hcu : cu ≤ mc) (hsu : su ≤ ms) (h : f_X2_isAbove_7 M x2 x3 x4 x5 x6 = some e) (g : (sE (fun a => WX RX2 cX2_isAbove 8 (some .boolean) ("isAbove", []) d mc ms X (px_QF Post mc ms) 7 [(0, .ref 1), (2, .int x2), (3, .int x3), (4, .int x4), (5, .int a.1), (6, .int a.2)] [] sh M L R n cu su) (fun t => WX RX2 cX2_isAbove 8 (some .boolean) ("isAbove", []) d mc ms X (px_QF Post mc ms) 33 [(0, .ref 1), (3, .int x3), (4, .int x4), (5, .int t)] [] sh M L R n cu su)) e) : WX RX2 cX2_isAbove 8 (some .boolean) ("isAbove", []) d mc ms X (px_QF Post mc ms) 7 [(0, .ref 1), (2, .int x2), (3, .int x3), (4, .int x4), (5, .int x5), (6, .int x6)] [] sh M L R n cu su := by
  unfold f_X2_isAbove_7 at h
  refine wx_iload dX2_isAbove_7 rfl ?_
  refine wx_iload_n dX2_isAbove_9 rfl ?_
  refine wx_icmp_gt (tgt := 33) dX2_isAbove_10 (by decide) (fun c_10 => ?_) (fun c_10 => ?_)
  · replace h := it_t h c_10
    obtain rfl := Option.some.inj h
    replace g := sE_r g
    exact wx_sub g (px_s rfl (px_s rfl (px_s rfl (px_s rfl px_0))))
  · replace h := it_f h c_10
    refine wx_iload dX2_isAbove_13 rfl ?_
    refine wx_aload_n dX2_isAbove_15 rfl ?_
    refine wx_getR dX2_isAbove_16 fl_X2_15 (sc_1 hS) rfl (rr_1_5 hS) ?_
    refine wx_iload dX2_isAbove_19 rfl ?_
    obtain ⟨w_21, h⟩ := ok_some h
    refine wx_iald dX2_isAbove_21 (sc_3 hS) (ix_in w_21) ?_
    obtain ⟨e_22, k_22, h⟩ := bd1_some h
    refine wx_cSi dX2_isAbove_22 ml_X2_70 my_J9_min_7cf53 sv_J9_min_7cf53 (s_J9_min_7cf53 (d := d - 1) hS (by omega) k_22) rfl (by omega) (by exact Nat.le_of_ble_eq_true rfl) hcu hsu ?_
    refine wx_istore (lv' := [(5, _), (0, _), (2, _), (3, _), (4, _), (6, _)]) dX2_isAbove_25 (by decide) rfl ?_
    refine wx_iinc (lv' := [(6, _), (5, _), (0, _), (2, _), (3, _), (4, _)]) dX2_isAbove_27 rfl (i_1 _) (by decide) rfl ?_
    refine wx_goto (tgt := 7) dX2_isAbove_30 (by decide) ?_
    obtain rfl := Option.some.inj h
    replace g := sE_l g
    exact wx_sub g (px_s rfl (px_s rfl (px_s rfl (px_s rfl (px_s rfl (px_s rfl px_0))))))
theorem s_X2_isAbove_7 {x2 : Int32} {x3 : Int32} {x4 : Int32} {x5 : Int32} {x6 : Int32} {M : px_M} {L : px_L} {R : px_R} {e : (Int32)} (hS : SR sh R) (hd : 1 ≤ d) (hcu : cu ≤ mc) (hsu : su ≤ ms) (h : lpf (fun a : Int32 × Int32 => f_X2_isAbove_7 M x2 x3 x4 a.1 a.2) (x5, x6) = some e) (g : WX RX2 cX2_isAbove 8 (some .boolean) ("isAbove", []) d mc ms X (px_QF Post mc ms) 33 [(0, .ref 1), (3, .int x3), (4, .int x4), (5, .int e)] [] sh M L R n cu su) : WX RX2 cX2_isAbove 8 (some .boolean) ("isAbove", []) d mc ms X (px_QF Post mc ms) 7 [(0, .ref 1), (2, .int x2), (3, .int x3), (4, .int x4), (5, .int x5), (6, .int x6)] [] sh M L R n cu su := by
  have key := lpf_wp (P := (fun a => WX RX2 cX2_isAbove 8 (some .boolean) ("isAbove", []) d mc ms X (px_QF Post mc ms) 7 [(0, .ref 1), (2, .int x2), (3, .int x3), (4, .int x4), (5, .int a.1), (6, .int a.2)] [] sh M L R n cu su)) (G := (fun t => WX RX2 cX2_isAbove 8 (some .boolean) ("isAbove", []) d mc ms X (px_QF Post mc ms) 33 [(0, .ref 1), (3, .int x3), (4, .int x4), (5, .int t)] [] sh M L R n cu su)) (fun a r h g => s_X2_isAbove_7b (x2 := x2) (x3 := x3) (x4 := x4) (x5 := a.1) (x6 := a.2) (M := M) (L := L) (R := R) hS hd hcu hsu h g) (a := (x5, x6)) h g
  exact key
noncomputable def f_X2_isAbove_78 (M : px_M) (z0 : Int32) : Option (Int32) :=
  ok (zb z0) <|
  some z0
theorem s_X2_isAbove_78 {z0 : Int32} {M : px_M} {L : px_L} {R : px_R} {e : (Int32)} (hS : SR sh R) (hd : 1 ≤ d) (hcu : cu ≤ mc) (hsu : su ≤ ms) (h : f_X2_isAbove_78 M z0 = some e) (g : Post (some (.int e)) sh M L R n) : WX RX2 cX2_isAbove 8 (some .boolean) ("isAbove", []) d mc ms X (px_QF Post mc ms) 78 [] [.int z0] sh M L R n cu su := by
  unfold f_X2_isAbove_78 at h
  obtain ⟨w_78, h⟩ := ok_some h
  refine wx_zret dX2_isAbove_78 (zb_n w_78) hcu hsu ?_
  obtain rfl := Option.some.inj h
  exact g
noncomputable def f_X2_isAbove (M : px_M) (p1 : Int32) (p2 : Int32) (p3 : Int32) (p4 : Int32) : Option (Int32) :=
  bd1 (lpf (fun a : Int32 × Int32 => f_X2_isAbove_7 M p2 p3 p4 a.1 a.2) (8, p1)) fun e_7 =>
  bd1 (lpf (fun a : Int32 × Int32 => f_X2_isAbove_39 M p4 e_7 a.1 a.2) ((-1), p3)) fun e_39 =>
  if e_7 ≤ e_39 then
    f_X2_isAbove_78 M 0
  else
    f_X2_isAbove_78 M 1
theorem s_X2_isAbove {d : Nat} {X : Nat × (Nat → Int32)} {sh : px_Sh} {M : px_M} {L : px_L} {R : px_R} {n : Nat} {p1 : Int32} {p2 : Int32} {p3 : Int32} {p4 : Int32} {e : Int32} (hS : SR sh R) (hd : 1 ≤ d) (h : f_X2_isAbove M p1 p2 p3 p4 = some e) : MX yX2_isAbove cX2_isAbove 8 (some .boolean) d 0 0 X [.ref 1, .int p1, .int p2, .int p3, .int p4] sh M L R n (px_pu (some (.int e)) sh M L R n) := by
  refine MX.of (by decide +kernel) (by exact Nat.le_of_ble_eq_true rfl) ?_
  have hcu : 0 ≤ 0 := Nat.zero_le _
  have hsu : 0 ≤ 0 := Nat.zero_le _
  have g : px_pu (some (.int e)) sh M L R n (some (.int e)) sh M L R n := ⟨rfl, rfl, rfl, rfl, rfl, rfl⟩
  unfold f_X2_isAbove at h
  refine wx_bipush (v := 8) dX2_isAbove_0 (by decide) ?_
  refine wx_istore (lv' := [(5, _), (0, _), (1, _), (2, _), (3, _), (4, _)]) dX2_isAbove_2 (by decide) rfl ?_
  refine wx_iload_n dX2_isAbove_4 rfl ?_
  refine wx_istore (lv' := [(6, _), (5, _), (0, _), (1, _), (2, _), (3, _), (4, _)]) dX2_isAbove_5 (by decide) rfl ?_
  obtain ⟨e_7, k_7, h⟩ := bd1_some h
  refine wx_sub (s_X2_isAbove_7 hS hd hcu hsu k_7 ?_) (px_s rfl (px_s rfl (px_s rfl (px_s rfl (px_s rfl (px_s rfl px_0))))))
  refine wx_iconst (v := (-1)) dX2_isAbove_33 (by decide) ?_
  refine wx_istore (lv' := [(6, _), (0, _), (3, _), (4, _), (5, _)]) dX2_isAbove_34 (by decide) rfl ?_
  refine wx_iload_n dX2_isAbove_36 rfl ?_
  refine wx_istore (lv' := [(7, _), (6, _), (0, _), (3, _), (4, _), (5, _)]) dX2_isAbove_37 (by decide) rfl ?_
  obtain ⟨e_39, k_39, h⟩ := bd1_some h
  refine wx_sub (s_X2_isAbove_39 hS hd hcu hsu k_39 ?_) (px_s rfl (px_s rfl (px_s rfl (px_s rfl (px_s rfl px_0)))))
  refine wx_iload dX2_isAbove_66 rfl ?_
  refine wx_iload dX2_isAbove_68 rfl ?_
  refine wx_icmp_le (tgt := 77) dX2_isAbove_70 (by decide) (fun c_70 => ?_) (fun c_70 => ?_)
  · replace h := it_t h c_70
    refine wx_iconst (v := 0) dX2_isAbove_77 (by decide) ?_
    exact wx_sub (s_X2_isAbove_78 hS hd hcu hsu h g) px_0
  · replace h := it_f h c_70
    refine wx_iconst (v := 1) dX2_isAbove_73 (by decide) ?_
    refine wx_goto (tgt := 78) dX2_isAbove_74 (by decide) ?_
    exact wx_sub (s_X2_isAbove_78 hS hd hcu hsu h g) px_0
noncomputable def f_X2_isClear_28 (M : px_M) (x1 : Int32) (x2 : Int32) (x3 : Int32) (x4 : Int32) : Option ((Int32) ⊕ (Int32)) :=
  if ((M 1 0) - 1) ≤ x4 then
    some (.inr x4)
  else
    bd1 (f_X2_isOpen x4 x2) fun e_43 =>
    if e_43 = 0 then
      some (.inl (x4 + 1))
    else
      some (.inr x4)
theorem s_X2_isClear_28b {x1 : Int32} {x2 : Int32} {x3 : Int32} {x4 : Int32} {M : px_M} {L : px_L} {R : px_R} {e : ((Int32) ⊕ (Int32))} (hS : SR sh R) (hd : 2 ≤ d) (hcu : cu ≤ mc) (hsu : su ≤ ms) (h : f_X2_isClear_28 M x1 x2 x3 x4 = some e) (g : (sE (fun a => WX RX2 cX2_isClear 5 (some .boolean) ("isClear", []) d mc ms X (px_QF Post mc ms) 28 [(0, .ref 1), (1, .int x1), (2, .int x2), (3, .int x3), (4, .int a)] [] sh M L R n cu su) (fun t => WX RX2 cX2_isClear 5 (some .boolean) ("isClear", []) d mc ms X (px_QF Post mc ms) 55 [(0, .ref 1), (1, .int x1), (3, .int x3), (4, .int t)] [] sh M L R n cu su)) e) : WX RX2 cX2_isClear 5 (some .boolean) ("isClear", []) d mc ms X (px_QF Post mc ms) 28 [(0, .ref 1), (1, .int x1), (2, .int x2), (3, .int x3), (4, .int x4)] [] sh M L R n cu su := by
  unfold f_X2_isClear_28 at h
  refine wx_iload dX2_isClear_28 rfl ?_
  refine wx_aload_n dX2_isClear_30 rfl ?_
  refine wx_getI dX2_isClear_31 fl_X2_24 (sc_1 hS) rfl ?_
  refine wx_iconst (v := 1) dX2_isClear_34 (by decide) ?_
  refine wx_isub dX2_isClear_35 ?_
  refine wx_icmp_ge (tgt := 55) dX2_isClear_36 (by decide) (fun c_36 => ?_) (fun c_36 => ?_)
  · replace h := it_t h c_36
    obtain rfl := Option.some.inj h
    replace g := sE_r g
    exact wx_sub g (px_s rfl (px_s rfl (px_s rfl (px_s rfl px_0))))
  · replace h := it_f h c_36
    refine wx_aload_n dX2_isClear_39 rfl ?_
    refine wx_iload dX2_isClear_40 rfl ?_
    refine wx_iload_n dX2_isClear_42 rfl ?_
    obtain ⟨e_43, k_43, h⟩ := bd1_some h
    refine wx_cVi dX2_isClear_43 ml_X2_63 my_X2_isOpen iv_X2_isOpen (sc_1 hS) (by decide) (s_X2_isOpen (d := d - 1) hS (by omega) k_43) rfl (by omega) (by exact Nat.le_of_ble_eq_true rfl) hcu hsu ?_
    refine wx_if_ne (tgt := 55) dX2_isClear_46 (by decide) (fun c_46 => ?_) (fun c_46 => ?_)
    · replace h := it_f h c_46
      obtain rfl := Option.some.inj h
      replace g := sE_r g
      exact wx_sub g (px_s rfl (px_s rfl (px_s rfl (px_s rfl px_0))))
    · replace h := it_t h c_46
      refine wx_iinc (lv' := [(4, _), (0, _), (1, _), (2, _), (3, _)]) dX2_isClear_49 rfl (i_1 _) (by decide) rfl ?_
      refine wx_goto (tgt := 28) dX2_isClear_52 (by decide) ?_
      obtain rfl := Option.some.inj h
      replace g := sE_l g
      exact wx_sub g (px_s rfl (px_s rfl (px_s rfl (px_s rfl (px_s rfl px_0)))))
theorem s_X2_isClear_28 {x1 : Int32} {x2 : Int32} {x3 : Int32} {x4 : Int32} {M : px_M} {L : px_L} {R : px_R} {e : (Int32)} (hS : SR sh R) (hd : 2 ≤ d) (hcu : cu ≤ mc) (hsu : su ≤ ms) (h : lpf (fun a : Int32 => f_X2_isClear_28 M x1 x2 x3 a) x4 = some e) (g : WX RX2 cX2_isClear 5 (some .boolean) ("isClear", []) d mc ms X (px_QF Post mc ms) 55 [(0, .ref 1), (1, .int x1), (3, .int x3), (4, .int e)] [] sh M L R n cu su) : WX RX2 cX2_isClear 5 (some .boolean) ("isClear", []) d mc ms X (px_QF Post mc ms) 28 [(0, .ref 1), (1, .int x1), (2, .int x2), (3, .int x3), (4, .int x4)] [] sh M L R n cu su := by
  have key := lpf_wp (P := (fun a => WX RX2 cX2_isClear 5 (some .boolean) ("isClear", []) d mc ms X (px_QF Post mc ms) 28 [(0, .ref 1), (1, .int x1), (2, .int x2), (3, .int x3), (4, .int a)] [] sh M L R n cu su)) (G := (fun t => WX RX2 cX2_isClear 5 (some .boolean) ("isClear", []) d mc ms X (px_QF Post mc ms) 55 [(0, .ref 1), (1, .int x1), (3, .int x3), (4, .int t)] [] sh M L R n cu su)) (fun a r h g => s_X2_isClear_28b (x1 := x1) (x2 := x2) (x3 := x3) (x4 := a) (M := M) (L := L) (R := R) hS hd hcu hsu h g) (a := x4) h g
  exact key
noncomputable def f_X2_isClear_2 (M : px_M) (x1 : Int32) (x2 : Int32) (x3 : Int32) : Option ((Int32) ⊕ (Int32)) :=
  if x3 ≤ 0 then
    some (.inr x3)
  else
    bd1 (f_X2_isOpen (x3 - 1) x2) fun e_11 =>
    if e_11 = 0 then
      some (.inl (x3 + -1))
    else
      some (.inr x3)
theorem s_X2_isClear_2b {x1 : Int32} {x2 : Int32} {x3 : Int32} {M : px_M} {L : px_L} {R : px_R} {e : ((Int32) ⊕ (Int32))} (hS : SR sh R) (hd : 2 ≤ d) (hcu : cu ≤ mc) (hsu : su ≤ ms) (h : f_X2_isClear_2 M x1 x2 x3 = some e) (g : (sE (fun a => WX RX2 cX2_isClear 5 (some .boolean) ("isClear", []) d mc ms X (px_QF Post mc ms) 2 [(0, .ref 1), (1, .int x1), (2, .int x2), (3, .int a)] [] sh M L R n cu su) (fun t => WX RX2 cX2_isClear 5 (some .boolean) ("isClear", []) d mc ms X (px_QF Post mc ms) 23 [(0, .ref 1), (1, .int x1), (2, .int x2), (3, .int t)] [] sh M L R n cu su)) e) : WX RX2 cX2_isClear 5 (some .boolean) ("isClear", []) d mc ms X (px_QF Post mc ms) 2 [(0, .ref 1), (1, .int x1), (2, .int x2), (3, .int x3)] [] sh M L R n cu su := by
  unfold f_X2_isClear_2 at h
  refine wx_iload_n dX2_isClear_2 rfl ?_
  refine wx_if_le (tgt := 23) dX2_isClear_3 (by decide) (fun c_3 => ?_) (fun c_3 => ?_)
  · replace h := it_t h c_3
    obtain rfl := Option.some.inj h
    replace g := sE_r g
    exact wx_sub g (px_s rfl (px_s rfl (px_s rfl (px_s rfl px_0))))
  · replace h := it_f h c_3
    refine wx_aload_n dX2_isClear_6 rfl ?_
    refine wx_iload_n dX2_isClear_7 rfl ?_
    refine wx_iconst (v := 1) dX2_isClear_8 (by decide) ?_
    refine wx_isub dX2_isClear_9 ?_
    refine wx_iload_n dX2_isClear_10 rfl ?_
    obtain ⟨e_11, k_11, h⟩ := bd1_some h
    refine wx_cVi dX2_isClear_11 ml_X2_63 my_X2_isOpen iv_X2_isOpen (sc_1 hS) (by decide) (s_X2_isOpen (d := d - 1) hS (by omega) k_11) rfl (by omega) (by exact Nat.le_of_ble_eq_true rfl) hcu hsu ?_
    refine wx_if_ne (tgt := 23) dX2_isClear_14 (by decide) (fun c_14 => ?_) (fun c_14 => ?_)
    · replace h := it_f h c_14
      obtain rfl := Option.some.inj h
      replace g := sE_r g
      exact wx_sub g (px_s rfl (px_s rfl (px_s rfl (px_s rfl px_0))))
    · replace h := it_t h c_14
      refine wx_iinc (lv' := [(3, _), (0, _), (1, _), (2, _)]) dX2_isClear_17 rfl (i_m1 _) (by decide) rfl ?_
      refine wx_goto (tgt := 2) dX2_isClear_20 (by decide) ?_
      obtain rfl := Option.some.inj h
      replace g := sE_l g
      exact wx_sub g (px_s rfl (px_s rfl (px_s rfl (px_s rfl px_0))))
theorem s_X2_isClear_2 {x1 : Int32} {x2 : Int32} {x3 : Int32} {M : px_M} {L : px_L} {R : px_R} {e : (Int32)} (hS : SR sh R) (hd : 2 ≤ d) (hcu : cu ≤ mc) (hsu : su ≤ ms) (h : lpf (fun a : Int32 => f_X2_isClear_2 M x1 x2 a) x3 = some e) (g : WX RX2 cX2_isClear 5 (some .boolean) ("isClear", []) d mc ms X (px_QF Post mc ms) 23 [(0, .ref 1), (1, .int x1), (2, .int x2), (3, .int e)] [] sh M L R n cu su) : WX RX2 cX2_isClear 5 (some .boolean) ("isClear", []) d mc ms X (px_QF Post mc ms) 2 [(0, .ref 1), (1, .int x1), (2, .int x2), (3, .int x3)] [] sh M L R n cu su := by
  have key := lpf_wp (P := (fun a => WX RX2 cX2_isClear 5 (some .boolean) ("isClear", []) d mc ms X (px_QF Post mc ms) 2 [(0, .ref 1), (1, .int x1), (2, .int x2), (3, .int a)] [] sh M L R n cu su)) (G := (fun t => WX RX2 cX2_isClear 5 (some .boolean) ("isClear", []) d mc ms X (px_QF Post mc ms) 23 [(0, .ref 1), (1, .int x1), (2, .int x2), (3, .int t)] [] sh M L R n cu su)) (fun a r h g => s_X2_isClear_2b (x1 := x1) (x2 := x2) (x3 := a) (M := M) (L := L) (R := R) hS hd hcu hsu h g) (a := x3) h g
  exact key
noncomputable def f_X2_isClear_88 (M : px_M) (z0 : Int32) : Option (Int32) :=
  ok (zb z0) <|
  some z0
theorem s_X2_isClear_88 {z0 : Int32} {M : px_M} {L : px_L} {R : px_R} {e : (Int32)} (hS : SR sh R) (hd : 2 ≤ d) (hcu : cu ≤ mc) (hsu : su ≤ ms) (h : f_X2_isClear_88 M z0 = some e) (g : Post (some (.int e)) sh M L R n) : WX RX2 cX2_isClear 5 (some .boolean) ("isClear", []) d mc ms X (px_QF Post mc ms) 88 [] [.int z0] sh M L R n cu su := by
  unfold f_X2_isClear_88 at h
  obtain ⟨w_88, h⟩ := ok_some h
  refine wx_zret dX2_isClear_88 (zb_n w_88) hcu hsu ?_
  obtain rfl := Option.some.inj h
  exact g
noncomputable def f_X2_isClear_83 (M : px_M) : Option (Int32) :=
  f_X2_isClear_88 M 1
theorem s_X2_isClear_83 {M : px_M} {L : px_L} {R : px_R} {e : (Int32)} (hS : SR sh R) (hd : 2 ≤ d) (hcu : cu ≤ mc) (hsu : su ≤ ms) (h : f_X2_isClear_83 M = some e) (g : Post (some (.int e)) sh M L R n) : WX RX2 cX2_isClear 5 (some .boolean) ("isClear", []) d mc ms X (px_QF Post mc ms) 83 [] [] sh M L R n cu su := by
  unfold f_X2_isClear_83 at h
  refine wx_iconst (v := 1) dX2_isClear_83 (by decide) ?_
  refine wx_goto (tgt := 88) dX2_isClear_84 (by decide) ?_
  exact wx_sub (s_X2_isClear_88 hS hd hcu hsu h g) px_0
noncomputable def f_X2_isClear (M : px_M) (p1 : Int32) (p2 : Int32) : Option (Int32) :=
  bd1 (lpf (fun a : Int32 => f_X2_isClear_2 M p1 p2 a) p1) fun e_2 =>
  nm (p1 + 1) fun v_26 =>
  bd1 (lpf (fun a : Int32 => f_X2_isClear_28 M p1 p2 e_2 a) v_26) fun e_28 =>
  bd1 (f_X2_isAbove M e_2 p1 (p1 + 1) e_28) fun e_63 =>
  if e_63 = 0 then
    bd1 (f_X2_isAbove M (p1 + 1) e_28 e_2 p1) fun e_77 =>
    if e_77 = 0 then
      f_X2_isClear_88 M 0
    else
      f_X2_isClear_83 M
  else
    f_X2_isClear_83 M
theorem s_X2_isClear {d : Nat} {X : Nat × (Nat → Int32)} {sh : px_Sh} {M : px_M} {L : px_L} {R : px_R} {n : Nat} {p1 : Int32} {p2 : Int32} {e : Int32} (hS : SR sh R) (hd : 2 ≤ d) (h : f_X2_isClear M p1 p2 = some e) : MX yX2_isClear cX2_isClear 5 (some .boolean) d 0 0 X [.ref 1, .int p1, .int p2] sh M L R n (px_pu (some (.int e)) sh M L R n) := by
  refine MX.of (by decide +kernel) (by exact Nat.le_of_ble_eq_true rfl) ?_
  have hcu : 0 ≤ 0 := Nat.zero_le _
  have hsu : 0 ≤ 0 := Nat.zero_le _
  have g : px_pu (some (.int e)) sh M L R n (some (.int e)) sh M L R n := ⟨rfl, rfl, rfl, rfl, rfl, rfl⟩
  unfold f_X2_isClear at h
  refine wx_iload_n dX2_isClear_0 rfl ?_
  refine wx_istore_n (lv' := [(3, _), (0, _), (1, _), (2, _)]) dX2_isClear_1 (by decide) rfl ?_
  obtain ⟨e_2, k_2, h⟩ := bd1_some h
  refine wx_sub (s_X2_isClear_2 hS hd hcu hsu k_2 ?_) (px_s rfl (px_s rfl (px_s rfl (px_s rfl px_0))))
  refine wx_iload_n dX2_isClear_23 rfl ?_
  refine wx_iconst (v := 1) dX2_isClear_24 (by decide) ?_
  refine wx_iadd dX2_isClear_25 ?_
  refine wx_nami (fun v_26 q_26 => ?_)
  replace h := nm_at h q_26
  refine wx_istore (lv' := [(4, _), (0, _), (1, _), (2, _), (3, _)]) dX2_isClear_26 (by decide) rfl ?_
  obtain ⟨e_28, k_28, h⟩ := bd1_some h
  refine wx_sub (s_X2_isClear_28 hS hd hcu hsu k_28 ?_) (px_s rfl (px_s rfl (px_s rfl (px_s rfl (px_s rfl px_0)))))
  refine wx_aload_n dX2_isClear_55 rfl ?_
  refine wx_iload_n dX2_isClear_56 rfl ?_
  refine wx_iload_n dX2_isClear_57 rfl ?_
  refine wx_iload_n dX2_isClear_58 rfl ?_
  refine wx_iconst (v := 1) dX2_isClear_59 (by decide) ?_
  refine wx_iadd dX2_isClear_60 ?_
  refine wx_iload dX2_isClear_61 rfl ?_
  obtain ⟨e_63, k_63, h⟩ := bd1_some h
  refine wx_cVi dX2_isClear_63 ml_X2_66 my_X2_isAbove iv_X2_isAbove (sc_1 hS) (by decide) (s_X2_isAbove (d := d - 1) hS (by omega) k_63) rfl (by omega) (by exact Nat.le_of_ble_eq_true rfl) hcu hsu ?_
  refine wx_if_ne (tgt := 83) dX2_isClear_66 (by decide) (fun c_66 => ?_) (fun c_66 => ?_)
  · replace h := it_f h c_66
    exact wx_sub (s_X2_isClear_83 hS hd hcu hsu h g) px_0
  · replace h := it_t h c_66
    refine wx_aload_n dX2_isClear_69 rfl ?_
    refine wx_iload_n dX2_isClear_70 rfl ?_
    refine wx_iconst (v := 1) dX2_isClear_71 (by decide) ?_
    refine wx_iadd dX2_isClear_72 ?_
    refine wx_iload dX2_isClear_73 rfl ?_
    refine wx_iload_n dX2_isClear_75 rfl ?_
    refine wx_iload_n dX2_isClear_76 rfl ?_
    obtain ⟨e_77, k_77, h⟩ := bd1_some h
    refine wx_cVi dX2_isClear_77 ml_X2_66 my_X2_isAbove iv_X2_isAbove (sc_1 hS) (by decide) (s_X2_isAbove (d := d - 1) hS (by omega) k_77) rfl (by omega) (by exact Nat.le_of_ble_eq_true rfl) hcu hsu ?_
    refine wx_if_eq (tgt := 87) dX2_isClear_80 (by decide) (fun c_80 => ?_) (fun c_80 => ?_)
    · replace h := it_t h c_80
      refine wx_iconst (v := 0) dX2_isClear_87 (by decide) ?_
      exact wx_sub (s_X2_isClear_88 hS hd hcu hsu h g) px_0
    · replace h := it_f h c_80
      exact wx_sub (s_X2_isClear_83 hS hd hcu hsu h g) px_0
noncomputable def f_X2_tryOpening (M : px_M) (p1 : Int32) : Option (Int32 × px_M) :=
  bd1 (f_X2_isOpen p1 (M 1 2)) fun e_6 =>
  if e_6 = 0 then
    bd1 (f_X2_isClear M p1 (M 1 2)) fun e_20 =>
    if e_20 = 0 then
      some (0, M)
    else
      nm ((M 1 2) ||| (1 <<< (p1 &&& 31))) fun v_37 =>
      nm (px_u M 1 2 v_37) fun M_37 =>
      some (1, M_37)
  else
    some ((-1), M)
theorem s_X2_tryOpening {d : Nat} {X : Nat × (Nat → Int32)} {sh : px_Sh} {M : px_M} {L : px_L} {R : px_R} {n : Nat} {p1 : Int32} {e : Int32 × px_M} (hS : SR sh R) (hd : 3 ≤ d) (h : f_X2_tryOpening M p1 = some e) : MX yX2_tryOpening cX2_tryOpening 2 (some .int) d 0 0 X [.ref 1, .int p1] sh M L R n (px_pu (some (.int e.1)) sh e.2 L R n) := by
  refine MX.of (by decide +kernel) (by exact Nat.le_of_ble_eq_true rfl) ?_
  have hcu : 0 ≤ 0 := Nat.zero_le _
  have hsu : 0 ≤ 0 := Nat.zero_le _
  have g : px_pu (some (.int e.1)) sh e.2 L R n (some (.int e.1)) sh e.2 L R n := ⟨rfl, rfl, rfl, rfl, rfl, rfl⟩
  unfold f_X2_tryOpening at h
  refine wx_aload_n dX2_tryOpening_0 rfl ?_
  refine wx_iload_n dX2_tryOpening_1 rfl ?_
  refine wx_aload_n dX2_tryOpening_2 rfl ?_
  refine wx_getI dX2_tryOpening_3 fl_X2_31 (sc_1 hS) rfl ?_
  obtain ⟨e_6, k_6, h⟩ := bd1_some h
  refine wx_cVi dX2_tryOpening_6 ml_X2_63 my_X2_isOpen iv_X2_isOpen (sc_1 hS) (by decide) (s_X2_isOpen (d := d - 1) hS (by omega) k_6) rfl (by omega) (by exact Nat.le_of_ble_eq_true rfl) hcu hsu ?_
  refine wx_if_eq (tgt := 14) dX2_tryOpening_9 (by decide) (fun c_9 => ?_) (fun c_9 => ?_)
  · replace h := it_t h c_9
    refine wx_aload_n dX2_tryOpening_14 rfl ?_
    refine wx_iload_n dX2_tryOpening_15 rfl ?_
    refine wx_aload_n dX2_tryOpening_16 rfl ?_
    refine wx_getI dX2_tryOpening_17 fl_X2_31 (sc_1 hS) rfl ?_
    obtain ⟨e_20, k_20, h⟩ := bd1_some h
    refine wx_cVi dX2_tryOpening_20 ml_X2_79 my_X2_isClear iv_X2_isClear (sc_1 hS) (by decide) (s_X2_isClear (d := d - 1) hS (by omega) k_20) rfl (by omega) (by exact Nat.le_of_ble_eq_true rfl) hcu hsu ?_
    refine wx_if_ne (tgt := 28) dX2_tryOpening_23 (by decide) (fun c_23 => ?_) (fun c_23 => ?_)
    · replace h := it_f h c_23
      refine wx_aload_n dX2_tryOpening_28 rfl ?_
      refine wx_dup dX2_tryOpening_29 rfl ?_
      refine wx_getI dX2_tryOpening_30 fl_X2_31 (sc_1 hS) rfl ?_
      refine wx_iconst (v := 1) dX2_tryOpening_33 (by decide) ?_
      refine wx_iload_n dX2_tryOpening_34 rfl ?_
      refine wx_ishl dX2_tryOpening_35 ?_
      refine wx_ior dX2_tryOpening_36 ?_
      refine wx_nami (fun v_37 q_37 => ?_)
      replace h := nm_at h q_37
      refine wx_putI dX2_tryOpening_37 fl_X2_31 (sc_1 hS) (Or.inl rfl) rfl ⟨rfl, rfl⟩ ?_
      refine wx_namM (fun M_37 q_37 => ?_)
      replace h := nm_at h q_37
      refine wx_iconst (v := 1) dX2_tryOpening_40 (by decide) ?_
      refine wx_iret dX2_tryOpening_41 hcu hsu ?_
      obtain rfl := Option.some.inj h
      exact g
    · replace h := it_t h c_23
      refine wx_iconst (v := 0) dX2_tryOpening_26 (by decide) ?_
      refine wx_iret dX2_tryOpening_27 hcu hsu ?_
      obtain rfl := Option.some.inj h
      exact g
  · replace h := it_f h c_9
    refine wx_iconst (v := (-1)) dX2_tryOpening_12 (by decide) ?_
    refine wx_iret dX2_tryOpening_13 hcu hsu ?_
    obtain rfl := Option.some.inj h
    exact g
noncomputable def f_X2_mayOpen_23 (M : px_M) (z0 : Int32) : Option (Int32) :=
  ok (zb z0) <|
  some z0
theorem s_X2_mayOpen_23 {z0 : Int32} {M : px_M} {L : px_L} {R : px_R} {e : (Int32)} (hS : SR sh R) (hd : 3 ≤ d) (hcu : cu ≤ mc) (hsu : su ≤ ms) (h : f_X2_mayOpen_23 M z0 = some e) (g : Post (some (.int e)) sh M L R n) : WX RX2 cX2_mayOpen 3 (some .boolean) ("mayOpen", []) d mc ms X (px_QF Post mc ms) 23 [] [.int z0] sh M L R n cu su := by
  unfold f_X2_mayOpen_23 at h
  obtain ⟨w_23, h⟩ := ok_some h
  refine wx_zret dX2_mayOpen_23 (zb_n w_23) hcu hsu ?_
  obtain rfl := Option.some.inj h
  exact g
noncomputable def f_X2_mayOpen_22 (M : px_M) : Option (Int32) :=
  f_X2_mayOpen_23 M 0
theorem s_X2_mayOpen_22 {M : px_M} {L : px_L} {R : px_R} {e : (Int32)} (hS : SR sh R) (hd : 3 ≤ d) (hcu : cu ≤ mc) (hsu : su ≤ ms) (h : f_X2_mayOpen_22 M = some e) (g : Post (some (.int e)) sh M L R n) : WX RX2 cX2_mayOpen 3 (some .boolean) ("mayOpen", []) d mc ms X (px_QF Post mc ms) 22 [] [] sh M L R n cu su := by
  unfold f_X2_mayOpen_22 at h
  refine wx_iconst (v := 0) dX2_mayOpen_22 (by decide) ?_
  exact wx_sub (s_X2_mayOpen_23 hS hd hcu hsu h g) px_0
noncomputable def f_X2_mayOpen (M : px_M) (p1 : Int32) (p2 : Int32) : Option (Int32) :=
  bd1 (f_X2_isOpen p1 p2) fun e_3 =>
  if e_3 = 0 then
    bd1 (f_X2_isClear M p1 p2) fun e_12 =>
    if e_12 = 0 then
      f_X2_mayOpen_22 M
    else
      f_X2_mayOpen_23 M 1
  else
    f_X2_mayOpen_22 M
theorem s_X2_mayOpen {d : Nat} {X : Nat × (Nat → Int32)} {sh : px_Sh} {M : px_M} {L : px_L} {R : px_R} {n : Nat} {p1 : Int32} {p2 : Int32} {e : Int32} (hS : SR sh R) (hd : 3 ≤ d) (h : f_X2_mayOpen M p1 p2 = some e) : MX yX2_mayOpen cX2_mayOpen 3 (some .boolean) d 0 0 X [.ref 1, .int p1, .int p2] sh M L R n (px_pu (some (.int e)) sh M L R n) := by
  refine MX.of (by decide +kernel) (by exact Nat.le_of_ble_eq_true rfl) ?_
  have hcu : 0 ≤ 0 := Nat.zero_le _
  have hsu : 0 ≤ 0 := Nat.zero_le _
  have g : px_pu (some (.int e)) sh M L R n (some (.int e)) sh M L R n := ⟨rfl, rfl, rfl, rfl, rfl, rfl⟩
  unfold f_X2_mayOpen at h
  refine wx_aload_n dX2_mayOpen_0 rfl ?_
  refine wx_iload_n dX2_mayOpen_1 rfl ?_
  refine wx_iload_n dX2_mayOpen_2 rfl ?_
  obtain ⟨e_3, k_3, h⟩ := bd1_some h
  refine wx_cVi dX2_mayOpen_3 ml_X2_63 my_X2_isOpen iv_X2_isOpen (sc_1 hS) (by decide) (s_X2_isOpen (d := d - 1) hS (by omega) k_3) rfl (by omega) (by exact Nat.le_of_ble_eq_true rfl) hcu hsu ?_
  refine wx_if_ne (tgt := 22) dX2_mayOpen_6 (by decide) (fun c_6 => ?_) (fun c_6 => ?_)
  · replace h := it_f h c_6
    exact wx_sub (s_X2_mayOpen_22 hS hd hcu hsu h g) px_0
  · replace h := it_t h c_6
    refine wx_aload_n dX2_mayOpen_9 rfl ?_
    refine wx_iload_n dX2_mayOpen_10 rfl ?_
    refine wx_iload_n dX2_mayOpen_11 rfl ?_
    obtain ⟨e_12, k_12, h⟩ := bd1_some h
    refine wx_cVi dX2_mayOpen_12 ml_X2_79 my_X2_isClear iv_X2_isClear (sc_1 hS) (by decide) (s_X2_isClear (d := d - 1) hS (by omega) k_12) rfl (by omega) (by exact Nat.le_of_ble_eq_true rfl) hcu hsu ?_
    refine wx_if_eq (tgt := 22) dX2_mayOpen_15 (by decide) (fun c_15 => ?_) (fun c_15 => ?_)
    · replace h := it_t h c_15
      exact wx_sub (s_X2_mayOpen_22 hS hd hcu hsu h g) px_0
    · replace h := it_f h c_15
      refine wx_iconst (v := 1) dX2_mayOpen_18 (by decide) ?_
      refine wx_goto (tgt := 23) dX2_mayOpen_19 (by decide) ?_
      exact wx_sub (s_X2_mayOpen_23 hS hd hcu hsu h g) px_0
noncomputable def f_X2_countOrders_90 (M : px_M) (x2 : Int32) (x3 : Int32) : Option ((Int32 × px_M) ⊕ (px_M)) :=
  some (.inl ((x3 + 1), M))
theorem s_X2_countOrders_90 {x2 : Int32} {x3 : Int32} {M : px_M} {L : px_L} {R : px_R} {e : ((Int32 × px_M) ⊕ (px_M))} (hS : SR sh R) (hd : 4 ≤ d) (hcu : cu ≤ mc) (hsu : su ≤ ms) (h : f_X2_countOrders_90 M x2 x3 = some e) (g : (sE (fun a => WX RX2 cX2_countOrders 4 (some .int) ("countOrders", []) d mc ms X (px_QF Post mc ms) 39 [(0, .ref 1), (2, .int x2), (3, .int a.1)] [] sh (a.2) L R n cu su) (fun t => WX RX2 cX2_countOrders 4 (some .int) ("countOrders", []) d mc ms X (px_QF Post mc ms) 96 [(0, .ref 1), (2, .int x2)] [] sh t L R n cu su)) e) : WX RX2 cX2_countOrders 4 (some .int) ("countOrders", []) d mc ms X (px_QF Post mc ms) 90 [(0, .ref 1), (2, .int x2), (3, .int x3)] [] sh M L R n cu su := by
  unfold f_X2_countOrders_90 at h
  refine wx_iinc (lv' := [(3, _), (0, _), (2, _)]) dX2_countOrders_90 rfl (i_1 _) (by decide) rfl ?_
  refine wx_goto (tgt := 39) dX2_countOrders_93 (by decide) ?_
  obtain rfl := Option.some.inj h
  replace g := sE_l g
  exact wx_sub g (px_s rfl (px_s rfl (px_s rfl px_0)))
noncomputable def f_X2_countOrders_39 (M : px_M) (x2 : Int32) (x3 : Int32) : Option ((Int32 × px_M) ⊕ (px_M)) :=
  if ((M 1 0) - 1) ≤ x3 then
    some (.inr M)
  else
    if (x2 &&& (M 1 2)) = (M 1 2) then
      bd1 (f_X2_mayOpen M x3 x2) fun e_65 =>
      if e_65 = 0 then
        f_X2_countOrders_90 M x2 x3
      else
        ok (ix x2 128) <|
        nm (x2 ||| (1 <<< (x3 &&& 31))) fun v_87 =>
        ok (ix v_87 128) <|
        nm ((M 5 x2.toNatClampNeg) + (M 5 v_87.toNatClampNeg)) fun v_89 =>
        ok (ix x2 128) <|
        nm (px_u M 5 x2.toNatClampNeg v_89) fun M_89 =>
        f_X2_countOrders_90 M_89 x2 x3
    else
      f_X2_countOrders_90 M x2 x3
theorem s_X2_countOrders_39b {x2 : Int32} {x3 : Int32} {M : px_M} {L : px_L} {R : px_R} {e : ((Int32 × px_M) ⊕ (px_M))} (hS : SR sh R) (hd : 4 ≤ d) (hcu : cu ≤ mc) (hsu : su ≤ ms) (h : f_X2_countOrders_39 M x2 x3 = some e) (g : (sE (fun a => WX RX2 cX2_countOrders 4 (some .int) ("countOrders", []) d mc ms X (px_QF Post mc ms) 39 [(0, .ref 1), (2, .int x2), (3, .int a.1)] [] sh (a.2) L R n cu su) (fun t => WX RX2 cX2_countOrders 4 (some .int) ("countOrders", []) d mc ms X (px_QF Post mc ms) 96 [(0, .ref 1), (2, .int x2)] [] sh t L R n cu su)) e) : WX RX2 cX2_countOrders 4 (some .int) ("countOrders", []) d mc ms X (px_QF Post mc ms) 39 [(0, .ref 1), (2, .int x2), (3, .int x3)] [] sh M L R n cu su := by
  unfold f_X2_countOrders_39 at h
  refine wx_iload_n dX2_countOrders_39 rfl ?_
  refine wx_aload_n dX2_countOrders_40 rfl ?_
  refine wx_getI dX2_countOrders_41 fl_X2_24 (sc_1 hS) rfl ?_
  refine wx_iconst (v := 1) dX2_countOrders_44 (by decide) ?_
  refine wx_isub dX2_countOrders_45 ?_
  refine wx_icmp_ge (tgt := 96) dX2_countOrders_46 (by decide) (fun c_46 => ?_) (fun c_46 => ?_)
  · replace h := it_t h c_46
    obtain rfl := Option.some.inj h
    replace g := sE_r g
    exact wx_sub g (px_s rfl (px_s rfl px_0))
  · replace h := it_f h c_46
    refine wx_iload_n dX2_countOrders_49 rfl ?_
    refine wx_aload_n dX2_countOrders_50 rfl ?_
    refine wx_getI dX2_countOrders_51 fl_X2_31 (sc_1 hS) rfl ?_
    refine wx_iand dX2_countOrders_54 ?_
    refine wx_aload_n dX2_countOrders_55 rfl ?_
    refine wx_getI dX2_countOrders_56 fl_X2_31 (sc_1 hS) rfl ?_
    refine wx_icmp_ne (tgt := 90) dX2_countOrders_59 (by decide) (fun c_59 => ?_) (fun c_59 => ?_)
    · replace h := it_f h c_59
      exact wx_sub (s_X2_countOrders_90 hS hd hcu hsu h g) (px_s rfl (px_s rfl (px_s rfl px_0)))
    · replace h := it_t h c_59
      refine wx_aload_n dX2_countOrders_62 rfl ?_
      refine wx_iload_n dX2_countOrders_63 rfl ?_
      refine wx_iload_n dX2_countOrders_64 rfl ?_
      obtain ⟨e_65, k_65, h⟩ := bd1_some h
      refine wx_cVi dX2_countOrders_65 ml_X2_82 my_X2_mayOpen iv_X2_mayOpen (sc_1 hS) (by decide) (s_X2_mayOpen (d := d - 1) hS (by omega) k_65) rfl (by omega) (by exact Nat.le_of_ble_eq_true rfl) hcu hsu ?_
      refine wx_if_eq (tgt := 90) dX2_countOrders_68 (by decide) (fun c_68 => ?_) (fun c_68 => ?_)
      · replace h := it_t h c_68
        exact wx_sub (s_X2_countOrders_90 hS hd hcu hsu h g) (px_s rfl (px_s rfl (px_s rfl px_0)))
      · replace h := it_f h c_68
        refine wx_aload_n dX2_countOrders_71 rfl ?_
        refine wx_getR dX2_countOrders_72 fl_X2_21 (sc_1 hS) rfl (rr_1_7 hS) ?_
        refine wx_iload_n dX2_countOrders_75 rfl ?_
        refine wx_dup2_11 dX2_countOrders_76 rfl rfl ?_
        obtain ⟨w_77, h⟩ := ok_some h
        refine wx_iald dX2_countOrders_77 (sc_5 hS) (ix_in w_77) ?_
        refine wx_aload_n dX2_countOrders_78 rfl ?_
        refine wx_getR dX2_countOrders_79 fl_X2_21 (sc_1 hS) rfl (rr_1_7 hS) ?_
        refine wx_iload_n dX2_countOrders_82 rfl ?_
        refine wx_iconst (v := 1) dX2_countOrders_83 (by decide) ?_
        refine wx_iload_n dX2_countOrders_84 rfl ?_
        refine wx_ishl dX2_countOrders_85 ?_
        refine wx_ior dX2_countOrders_86 ?_
        refine wx_nami (fun v_87 q_87 => ?_)
        replace h := nm_at h q_87
        obtain ⟨w_87, h⟩ := ok_some h
        refine wx_iald dX2_countOrders_87 (sc_5 hS) (ix_in w_87) ?_
        refine wx_iadd dX2_countOrders_88 ?_
        refine wx_nami (fun v_89 q_89 => ?_)
        replace h := nm_at h q_89
        obtain ⟨w_89, h⟩ := ok_some h
        refine wx_iast dX2_countOrders_89 (sc_5 hS) (ix_in w_89) ?_
        refine wx_namM (fun M_89 q_89 => ?_)
        replace h := nm_at h q_89
        exact wx_sub (s_X2_countOrders_90 hS hd hcu hsu h g) (px_s rfl (px_s rfl (px_s rfl px_0)))
theorem s_X2_countOrders_39 {x2 : Int32} {x3 : Int32} {M : px_M} {L : px_L} {R : px_R} {e : (px_M)} (hS : SR sh R) (hd : 4 ≤ d) (hcu : cu ≤ mc) (hsu : su ≤ ms) (h : lpf (fun a : Int32 × px_M => f_X2_countOrders_39 a.2 x2 a.1) (x3, M) = some e) (g : WX RX2 cX2_countOrders 4 (some .int) ("countOrders", []) d mc ms X (px_QF Post mc ms) 96 [(0, .ref 1), (2, .int x2)] [] sh e L R n cu su) : WX RX2 cX2_countOrders 4 (some .int) ("countOrders", []) d mc ms X (px_QF Post mc ms) 39 [(0, .ref 1), (2, .int x2), (3, .int x3)] [] sh M L R n cu su := by
  have key := lpf_wp (P := (fun a => WX RX2 cX2_countOrders 4 (some .int) ("countOrders", []) d mc ms X (px_QF Post mc ms) 39 [(0, .ref 1), (2, .int x2), (3, .int a.1)] [] sh (a.2) L R n cu su)) (G := (fun t => WX RX2 cX2_countOrders 4 (some .int) ("countOrders", []) d mc ms X (px_QF Post mc ms) 96 [(0, .ref 1), (2, .int x2)] [] sh t L R n cu su)) (fun a r h g => s_X2_countOrders_39b (x2 := x2) (x3 := a.1) (M := a.2) (L := L) (R := R) hS hd hcu hsu h g) (a := (x3, M)) h g
  exact key
noncomputable def f_X2_countOrders_22 (M : px_M) (x2 : Int32) : Option ((Int32 × px_M) ⊕ (px_M)) :=
  if x2 < (M 1 2) then
    some (.inr M)
  else
    ok (ix x2 128) <|
    nm (px_u M 5 x2.toNatClampNeg 0) fun M_36 =>
    bd1 (lpf (fun a : Int32 × px_M => f_X2_countOrders_39 a.2 x2 a.1) (0, M_36)) fun e_39 =>
    some (.inl ((x2 + -1), e_39))
theorem s_X2_countOrders_22b {x2 : Int32} {M : px_M} {L : px_L} {R : px_R} {e : ((Int32 × px_M) ⊕ (px_M))} (hS : SR sh R) (hd : 4 ≤ d) (hcu : cu ≤ mc) (hsu : su ≤ ms) (h : f_X2_countOrders_22 M x2 = some e) (g : (sE (fun a => WX RX2 cX2_countOrders 4 (some .int) ("countOrders", []) d mc ms X (px_QF Post mc ms) 22 [(0, .ref 1), (2, .int a.1)] [] sh (a.2) L R n cu su) (fun t => WX RX2 cX2_countOrders 4 (some .int) ("countOrders", []) d mc ms X (px_QF Post mc ms) 102 [(0, .ref 1)] [] sh t L R n cu su)) e) : WX RX2 cX2_countOrders 4 (some .int) ("countOrders", []) d mc ms X (px_QF Post mc ms) 22 [(0, .ref 1), (2, .int x2)] [] sh M L R n cu su := by
  unfold f_X2_countOrders_22 at h
  refine wx_iload_n dX2_countOrders_22 rfl ?_
  refine wx_aload_n dX2_countOrders_23 rfl ?_
  refine wx_getI dX2_countOrders_24 fl_X2_31 (sc_1 hS) rfl ?_
  refine wx_icmp_lt (tgt := 102) dX2_countOrders_27 (by decide) (fun c_27 => ?_) (fun c_27 => ?_)
  · replace h := it_t h c_27
    obtain rfl := Option.some.inj h
    replace g := sE_r g
    exact wx_sub g (px_s rfl px_0)
  · replace h := it_f h c_27
    refine wx_aload_n dX2_countOrders_30 rfl ?_
    refine wx_getR dX2_countOrders_31 fl_X2_21 (sc_1 hS) rfl (rr_1_7 hS) ?_
    refine wx_iload_n dX2_countOrders_34 rfl ?_
    refine wx_iconst (v := 0) dX2_countOrders_35 (by decide) ?_
    obtain ⟨w_36, h⟩ := ok_some h
    refine wx_iast dX2_countOrders_36 (sc_5 hS) (ix_in w_36) ?_
    refine wx_namM (fun M_36 q_36 => ?_)
    replace h := nm_at h q_36
    refine wx_iconst (v := 0) dX2_countOrders_37 (by decide) ?_
    refine wx_istore_n (lv' := [(3, _), (0, _), (2, _)]) dX2_countOrders_38 (by decide) rfl ?_
    obtain ⟨e_39, k_39, h⟩ := bd1_some h
    refine wx_sub (s_X2_countOrders_39 hS hd hcu hsu k_39 ?_) (px_s rfl (px_s rfl (px_s rfl px_0)))
    refine wx_iinc (lv' := [(2, _), (0, _)]) dX2_countOrders_96 rfl (i_m1 _) (by decide) rfl ?_
    refine wx_goto (tgt := 22) dX2_countOrders_99 (by decide) ?_
    obtain rfl := Option.some.inj h
    replace g := sE_l g
    exact wx_sub g (px_s rfl (px_s rfl px_0))
theorem s_X2_countOrders_22 {x2 : Int32} {M : px_M} {L : px_L} {R : px_R} {e : (px_M)} (hS : SR sh R) (hd : 4 ≤ d) (hcu : cu ≤ mc) (hsu : su ≤ ms) (h : lpf (fun a : Int32 × px_M => f_X2_countOrders_22 a.2 a.1) (x2, M) = some e) (g : WX RX2 cX2_countOrders 4 (some .int) ("countOrders", []) d mc ms X (px_QF Post mc ms) 102 [(0, .ref 1)] [] sh e L R n cu su) : WX RX2 cX2_countOrders 4 (some .int) ("countOrders", []) d mc ms X (px_QF Post mc ms) 22 [(0, .ref 1), (2, .int x2)] [] sh M L R n cu su := by
  have key := lpf_wp (P := (fun a => WX RX2 cX2_countOrders 4 (some .int) ("countOrders", []) d mc ms X (px_QF Post mc ms) 22 [(0, .ref 1), (2, .int a.1)] [] sh (a.2) L R n cu su)) (G := (fun t => WX RX2 cX2_countOrders 4 (some .int) ("countOrders", []) d mc ms X (px_QF Post mc ms) 102 [(0, .ref 1)] [] sh t L R n cu su)) (fun a r h g => s_X2_countOrders_22b (x2 := a.1) (M := a.2) (L := L) (R := R) hS hd hcu hsu h g) (a := (x2, M)) h g
  exact key
noncomputable def f_X2_countOrders (M : px_M) : Option (Int32 × px_M) :=
  nm ((1 <<< (((M 1 0) - 1) &&& 31)) - 1) fun v_10 =>
  ok (ix v_10 128) <|
  nm (px_u M 5 v_10.toNatClampNeg 1) fun M_17 =>
  nm (v_10 - 1) fun v_21 =>
  bd1 (lpf (fun a : Int32 × px_M => f_X2_countOrders_22 a.2 a.1) (v_21, M_17)) fun e_22 =>
  nm (e_22 1 2) fun v_110 =>
  ok (ix v_110 128) <|
  some ((e_22 5 v_110.toNatClampNeg), e_22)
theorem s_X2_countOrders {d : Nat} {X : Nat × (Nat → Int32)} {sh : px_Sh} {M : px_M} {L : px_L} {R : px_R} {n : Nat} {e : Int32 × px_M} (hS : SR sh R) (hd : 4 ≤ d) (h : f_X2_countOrders M = some e) : MX yX2_countOrders cX2_countOrders 4 (some .int) d 0 0 X [.ref 1] sh M L R n (px_pu (some (.int e.1)) sh e.2 L R n) := by
  refine MX.of (by decide +kernel) (by exact Nat.le_of_ble_eq_true rfl) ?_
  have hcu : 0 ≤ 0 := Nat.zero_le _
  have hsu : 0 ≤ 0 := Nat.zero_le _
  have g : px_pu (some (.int e.1)) sh e.2 L R n (some (.int e.1)) sh e.2 L R n := ⟨rfl, rfl, rfl, rfl, rfl, rfl⟩
  unfold f_X2_countOrders at h
  refine wx_iconst (v := 1) dX2_countOrders_0 (by decide) ?_
  refine wx_aload_n dX2_countOrders_1 rfl ?_
  refine wx_getI dX2_countOrders_2 fl_X2_24 (sc_1 hS) rfl ?_
  refine wx_iconst (v := 1) dX2_countOrders_5 (by decide) ?_
  refine wx_isub dX2_countOrders_6 ?_
  refine wx_ishl dX2_countOrders_7 ?_
  refine wx_iconst (v := 1) dX2_countOrders_8 (by decide) ?_
  refine wx_isub dX2_countOrders_9 ?_
  refine wx_nami (fun v_10 q_10 => ?_)
  replace h := nm_at h q_10
  refine wx_istore_n (lv' := [(1, _), (0, _)]) dX2_countOrders_10 (by decide) rfl ?_
  refine wx_aload_n dX2_countOrders_11 rfl ?_
  refine wx_getR dX2_countOrders_12 fl_X2_21 (sc_1 hS) rfl (rr_1_7 hS) ?_
  refine wx_iload_n dX2_countOrders_15 rfl ?_
  refine wx_iconst (v := 1) dX2_countOrders_16 (by decide) ?_
  obtain ⟨w_17, h⟩ := ok_some h
  refine wx_iast dX2_countOrders_17 (sc_5 hS) (ix_in w_17) ?_
  refine wx_namM (fun M_17 q_17 => ?_)
  replace h := nm_at h q_17
  refine wx_iload_n dX2_countOrders_18 rfl ?_
  refine wx_iconst (v := 1) dX2_countOrders_19 (by decide) ?_
  refine wx_isub dX2_countOrders_20 ?_
  refine wx_nami (fun v_21 q_21 => ?_)
  replace h := nm_at h q_21
  refine wx_istore_n (lv' := [(2, _), (1, _), (0, _)]) dX2_countOrders_21 (by decide) rfl ?_
  obtain ⟨e_22, k_22, h⟩ := bd1_some h
  refine wx_sub (s_X2_countOrders_22 hS hd hcu hsu k_22 ?_) (px_s rfl (px_s rfl px_0))
  refine wx_aload_n dX2_countOrders_102 rfl ?_
  refine wx_getR dX2_countOrders_103 fl_X2_21 (sc_1 hS) rfl (rr_1_7 hS) ?_
  refine wx_aload_n dX2_countOrders_106 rfl ?_
  refine wx_getI dX2_countOrders_107 fl_X2_31 (sc_1 hS) rfl ?_
  refine wx_nami (fun v_110 q_110 => ?_)
  replace h := nm_at h q_110
  obtain ⟨w_110, h⟩ := ok_some h
  refine wx_iald dX2_countOrders_110 (sc_5 hS) (ix_in w_110) ?_
  refine wx_iret dX2_countOrders_111 hcu hsu ?_
  obtain rfl := Option.some.inj h
  exact g
noncomputable def f_X2_firstSafe_34 (M : px_M) (x1 : Int32) (x2 : Int32) : Option ((Int32) ⊕ (Int32)) :=
  some (.inl (x2 + 1))
theorem s_X2_firstSafe_34 {x1 : Int32} {x2 : Int32} {M : px_M} {L : px_L} {R : px_R} {e : ((Int32) ⊕ (Int32))} (hS : SR sh R) (hd : 4 ≤ d) (hcu : cu ≤ mc) (hsu : su ≤ ms) (h : f_X2_firstSafe_34 M x1 x2 = some e) (g : (sE (fun a => WX RX2 cX2_firstSafe 3 (some .int) ("firstSafe", []) d mc ms X (px_QF Post mc ms) 2 [(0, .ref 1), (1, .int x1), (2, .int a)] [] sh M L R n cu su) (fun t => WX RX2 cX2_firstSafe 3 (some .int) ("firstSafe", []) d mc ms X (px_QF Post mc ms) 40 [(2, .int t)] [] sh M L R n cu su)) e) : WX RX2 cX2_firstSafe 3 (some .int) ("firstSafe", []) d mc ms X (px_QF Post mc ms) 34 [(0, .ref 1), (1, .int x1), (2, .int x2)] [] sh M L R n cu su := by
  unfold f_X2_firstSafe_34 at h
  refine wx_iinc (lv' := [(2, _), (0, _), (1, _)]) dX2_firstSafe_34 rfl (i_1 _) (by decide) rfl ?_
  refine wx_goto (tgt := 2) dX2_firstSafe_37 (by decide) ?_
  obtain rfl := Option.some.inj h
  replace g := sE_l g
  exact wx_sub g (px_s rfl (px_s rfl (px_s rfl px_0)))
noncomputable def f_X2_firstSafe_2 (M : px_M) (x1 : Int32) (x2 : Int32) : Option ((Int32) ⊕ (Int32)) :=
  if ((M 1 0) - 2) ≤ x2 then
    some (.inr x2)
  else
    bd1 (f_X2_mayOpen M x2 x1) fun e_15 =>
    if e_15 = 0 then
      f_X2_firstSafe_34 M x1 x2
    else
      nm (x1 ||| (1 <<< (x2 &&& 31))) fun v_30 =>
      ok (ix v_30 128) <|
      if 0 < (M 5 v_30.toNatClampNeg) then
        some (.inr x2)
      else
        f_X2_firstSafe_34 M x1 x2
theorem s_X2_firstSafe_2b {x1 : Int32} {x2 : Int32} {M : px_M} {L : px_L} {R : px_R} {e : ((Int32) ⊕ (Int32))} (hS : SR sh R) (hd : 4 ≤ d) (hcu : cu ≤ mc) (hsu : su ≤ ms) (h : f_X2_firstSafe_2 M x1 x2 = some e) (g : (sE (fun a => WX RX2 cX2_firstSafe 3 (some .int) ("firstSafe", []) d mc ms X (px_QF Post mc ms) 2 [(0, .ref 1), (1, .int x1), (2, .int a)] [] sh M L R n cu su) (fun t => WX RX2 cX2_firstSafe 3 (some .int) ("firstSafe", []) d mc ms X (px_QF Post mc ms) 40 [(2, .int t)] [] sh M L R n cu su)) e) : WX RX2 cX2_firstSafe 3 (some .int) ("firstSafe", []) d mc ms X (px_QF Post mc ms) 2 [(0, .ref 1), (1, .int x1), (2, .int x2)] [] sh M L R n cu su := by
  unfold f_X2_firstSafe_2 at h
  refine wx_iload_n dX2_firstSafe_2 rfl ?_
  refine wx_aload_n dX2_firstSafe_3 rfl ?_
  refine wx_getI dX2_firstSafe_4 fl_X2_24 (sc_1 hS) rfl ?_
  refine wx_iconst (v := 2) dX2_firstSafe_7 (by decide) ?_
  refine wx_isub dX2_firstSafe_8 ?_
  refine wx_icmp_ge (tgt := 40) dX2_firstSafe_9 (by decide) (fun c_9 => ?_) (fun c_9 => ?_)
  · replace h := it_t h c_9
    obtain rfl := Option.some.inj h
    replace g := sE_r g
    exact wx_sub g (px_s rfl px_0)
  · replace h := it_f h c_9
    refine wx_aload_n dX2_firstSafe_12 rfl ?_
    refine wx_iload_n dX2_firstSafe_13 rfl ?_
    refine wx_iload_n dX2_firstSafe_14 rfl ?_
    obtain ⟨e_15, k_15, h⟩ := bd1_some h
    refine wx_cVi dX2_firstSafe_15 ml_X2_82 my_X2_mayOpen iv_X2_mayOpen (sc_1 hS) (by decide) (s_X2_mayOpen (d := d - 1) hS (by omega) k_15) rfl (by omega) (by exact Nat.le_of_ble_eq_true rfl) hcu hsu ?_
    refine wx_if_eq (tgt := 34) dX2_firstSafe_18 (by decide) (fun c_18 => ?_) (fun c_18 => ?_)
    · replace h := it_t h c_18
      exact wx_sub (s_X2_firstSafe_34 hS hd hcu hsu h g) (px_s rfl (px_s rfl (px_s rfl px_0)))
    · replace h := it_f h c_18
      refine wx_aload_n dX2_firstSafe_21 rfl ?_
      refine wx_getR dX2_firstSafe_22 fl_X2_21 (sc_1 hS) rfl (rr_1_7 hS) ?_
      refine wx_iload_n dX2_firstSafe_25 rfl ?_
      refine wx_iconst (v := 1) dX2_firstSafe_26 (by decide) ?_
      refine wx_iload_n dX2_firstSafe_27 rfl ?_
      refine wx_ishl dX2_firstSafe_28 ?_
      refine wx_ior dX2_firstSafe_29 ?_
      refine wx_nami (fun v_30 q_30 => ?_)
      replace h := nm_at h q_30
      obtain ⟨w_30, h⟩ := ok_some h
      refine wx_iald dX2_firstSafe_30 (sc_5 hS) (ix_in w_30) ?_
      refine wx_if_gt (tgt := 40) dX2_firstSafe_31 (by decide) (fun c_31 => ?_) (fun c_31 => ?_)
      · replace h := it_t h c_31
        obtain rfl := Option.some.inj h
        replace g := sE_r g
        exact wx_sub g (px_s rfl px_0)
      · replace h := it_f h c_31
        exact wx_sub (s_X2_firstSafe_34 hS hd hcu hsu h g) (px_s rfl (px_s rfl (px_s rfl px_0)))
theorem s_X2_firstSafe_2 {x1 : Int32} {x2 : Int32} {M : px_M} {L : px_L} {R : px_R} {e : (Int32)} (hS : SR sh R) (hd : 4 ≤ d) (hcu : cu ≤ mc) (hsu : su ≤ ms) (h : lpf (fun a : Int32 => f_X2_firstSafe_2 M x1 a) x2 = some e) (g : WX RX2 cX2_firstSafe 3 (some .int) ("firstSafe", []) d mc ms X (px_QF Post mc ms) 40 [(2, .int e)] [] sh M L R n cu su) : WX RX2 cX2_firstSafe 3 (some .int) ("firstSafe", []) d mc ms X (px_QF Post mc ms) 2 [(0, .ref 1), (1, .int x1), (2, .int x2)] [] sh M L R n cu su := by
  have key := lpf_wp (P := (fun a => WX RX2 cX2_firstSafe 3 (some .int) ("firstSafe", []) d mc ms X (px_QF Post mc ms) 2 [(0, .ref 1), (1, .int x1), (2, .int a)] [] sh M L R n cu su)) (G := (fun t => WX RX2 cX2_firstSafe 3 (some .int) ("firstSafe", []) d mc ms X (px_QF Post mc ms) 40 [(2, .int t)] [] sh M L R n cu su)) (fun a r h g => s_X2_firstSafe_2b (x1 := x1) (x2 := a) (M := M) (L := L) (R := R) hS hd hcu hsu h g) (a := x2) h g
  exact key
noncomputable def f_X2_firstSafe (M : px_M) (p1 : Int32) : Option (Int32) :=
  bd1 (lpf (fun a : Int32 => f_X2_firstSafe_2 M p1 a) 0) fun e_2 =>
  some e_2
theorem s_X2_firstSafe {d : Nat} {X : Nat × (Nat → Int32)} {sh : px_Sh} {M : px_M} {L : px_L} {R : px_R} {n : Nat} {p1 : Int32} {e : Int32} (hS : SR sh R) (hd : 4 ≤ d) (h : f_X2_firstSafe M p1 = some e) : MX yX2_firstSafe cX2_firstSafe 3 (some .int) d 0 0 X [.ref 1, .int p1] sh M L R n (px_pu (some (.int e)) sh M L R n) := by
  refine MX.of (by decide +kernel) (by exact Nat.le_of_ble_eq_true rfl) ?_
  have hcu : 0 ≤ 0 := Nat.zero_le _
  have hsu : 0 ≤ 0 := Nat.zero_le _
  have g : px_pu (some (.int e)) sh M L R n (some (.int e)) sh M L R n := ⟨rfl, rfl, rfl, rfl, rfl, rfl⟩
  unfold f_X2_firstSafe at h
  refine wx_iconst (v := 0) dX2_firstSafe_0 (by decide) ?_
  refine wx_istore_n (lv' := [(2, _), (0, _), (1, _)]) dX2_firstSafe_1 (by decide) rfl ?_
  obtain ⟨e_2, k_2, h⟩ := bd1_some h
  refine wx_sub (s_X2_firstSafe_2 hS hd hcu hsu k_2 ?_) (px_s rfl (px_s rfl (px_s rfl px_0)))
  refine wx_iload_n dX2_firstSafe_40 rfl ?_
  refine wx_iret dX2_firstSafe_41 hcu hsu ?_
  obtain rfl := Option.some.inj h
  exact g
noncomputable def f_X2_creaseOfFirstOrder_44 (M : px_M) (x1 : Int32) (x3 : Int32) (x4 : Int32) (x5 : Int32) : Option ((Int32 × Int32 × Int32) ⊕ (Int32)) :=
  if x1 < x5 then
    some (.inr x4)
  else
    bd1 (f_X2_firstSafe M x3) fun e_52 =>
    nm (x3 ||| (1 <<< (e_52 &&& 31))) fun v_63 =>
    some (.inl (v_63, e_52, (x5 + 1)))
theorem s_X2_creaseOfFirstOrder_44b {x1 : Int32} {x3 : Int32} {x4 : Int32} {x5 : Int32} {M : px_M} {L : px_L} {R : px_R} {e : ((Int32 × Int32 × Int32) ⊕ (Int32))} (hS : SR sh R) (hd : 5 ≤ d) (hcu : cu ≤ mc) (hsu : su ≤ ms) (h : f_X2_creaseOfFirstOrder_44 M x1 x3 x4 x5 = some e) (g : (sE (fun a => WX RX2 cX2_creaseOfFirstOrder 6 (some .int) ("creaseOfFirstOrder", []) d mc ms X (px_QF Post mc ms) 44 [(0, .ref 1), (1, .int x1), (3, .int a.1), (4, .int a.2.1), (5, .int a.2.2)] [] sh M L R n cu su) (fun t => WX RX2 cX2_creaseOfFirstOrder 6 (some .int) ("creaseOfFirstOrder", []) d mc ms X (px_QF Post mc ms) 70 [(4, .int t)] [] sh M L R n cu su)) e) : WX RX2 cX2_creaseOfFirstOrder 6 (some .int) ("creaseOfFirstOrder", []) d mc ms X (px_QF Post mc ms) 44 [(0, .ref 1), (1, .int x1), (3, .int x3), (4, .int x4), (5, .int x5)] [] sh M L R n cu su := by
  unfold f_X2_creaseOfFirstOrder_44 at h
  refine wx_iload dX2_creaseOfFirstOrder_44 rfl ?_
  refine wx_iload_n dX2_creaseOfFirstOrder_46 rfl ?_
  refine wx_icmp_gt (tgt := 70) dX2_creaseOfFirstOrder_47 (by decide) (fun c_47 => ?_) (fun c_47 => ?_)
  · replace h := it_t h c_47
    obtain rfl := Option.some.inj h
    replace g := sE_r g
    exact wx_sub g (px_s rfl px_0)
  · replace h := it_f h c_47
    refine wx_aload_n dX2_creaseOfFirstOrder_50 rfl ?_
    refine wx_iload_n dX2_creaseOfFirstOrder_51 rfl ?_
    obtain ⟨e_52, k_52, h⟩ := bd1_some h
    refine wx_cVi dX2_creaseOfFirstOrder_52 ml_X2_94 my_X2_firstSafe iv_X2_firstSafe (sc_1 hS) (by decide) (s_X2_firstSafe (d := d - 1) hS (by omega) k_52) rfl (by omega) (by exact Nat.le_of_ble_eq_true rfl) hcu hsu ?_
    refine wx_istore (lv' := [(4, _), (0, _), (1, _), (3, _), (5, _)]) dX2_creaseOfFirstOrder_55 (by decide) rfl ?_
    refine wx_iload_n dX2_creaseOfFirstOrder_57 rfl ?_
    refine wx_iconst (v := 1) dX2_creaseOfFirstOrder_58 (by decide) ?_
    refine wx_iload dX2_creaseOfFirstOrder_59 rfl ?_
    refine wx_ishl dX2_creaseOfFirstOrder_61 ?_
    refine wx_ior dX2_creaseOfFirstOrder_62 ?_
    refine wx_nami (fun v_63 q_63 => ?_)
    replace h := nm_at h q_63
    refine wx_istore_n (lv' := [(3, _), (4, _), (0, _), (1, _), (5, _)]) dX2_creaseOfFirstOrder_63 (by decide) rfl ?_
    refine wx_iinc (lv' := [(5, _), (3, _), (4, _), (0, _), (1, _)]) dX2_creaseOfFirstOrder_64 rfl (i_1 _) (by decide) rfl ?_
    refine wx_goto (tgt := 44) dX2_creaseOfFirstOrder_67 (by decide) ?_
    obtain rfl := Option.some.inj h
    replace g := sE_l g
    exact wx_sub g (px_s rfl (px_s rfl (px_s rfl (px_s rfl (px_s rfl px_0)))))
theorem s_X2_creaseOfFirstOrder_44 {x1 : Int32} {x3 : Int32} {x4 : Int32} {x5 : Int32} {M : px_M} {L : px_L} {R : px_R} {e : (Int32)} (hS : SR sh R) (hd : 5 ≤ d) (hcu : cu ≤ mc) (hsu : su ≤ ms) (h : lpf (fun a : Int32 × Int32 × Int32 => f_X2_creaseOfFirstOrder_44 M x1 a.1 a.2.1 a.2.2) (x3, x4, x5) = some e) (g : WX RX2 cX2_creaseOfFirstOrder 6 (some .int) ("creaseOfFirstOrder", []) d mc ms X (px_QF Post mc ms) 70 [(4, .int e)] [] sh M L R n cu su) : WX RX2 cX2_creaseOfFirstOrder 6 (some .int) ("creaseOfFirstOrder", []) d mc ms X (px_QF Post mc ms) 44 [(0, .ref 1), (1, .int x1), (3, .int x3), (4, .int x4), (5, .int x5)] [] sh M L R n cu su := by
  have key := lpf_wp (P := (fun a => WX RX2 cX2_creaseOfFirstOrder 6 (some .int) ("creaseOfFirstOrder", []) d mc ms X (px_QF Post mc ms) 44 [(0, .ref 1), (1, .int x1), (3, .int a.1), (4, .int a.2.1), (5, .int a.2.2)] [] sh M L R n cu su)) (G := (fun t => WX RX2 cX2_creaseOfFirstOrder 6 (some .int) ("creaseOfFirstOrder", []) d mc ms X (px_QF Post mc ms) 70 [(4, .int t)] [] sh M L R n cu su)) (fun a r h g => s_X2_creaseOfFirstOrder_44b (x1 := x1) (x3 := a.1) (x4 := a.2.1) (x5 := a.2.2) (M := M) (L := L) (R := R) hS hd hcu hsu h g) (a := (x3, x4, x5)) h g
  exact key
noncomputable def f_X2_creaseOfFirstOrder_31 (M : px_M) : Option (Int32 × px_M) :=
  some ((-1), M)
theorem s_X2_creaseOfFirstOrder_31 {M : px_M} {L : px_L} {R : px_R} {e : (Int32 × px_M)} (hS : SR sh R) (hd : 5 ≤ d) (hcu : cu ≤ mc) (hsu : su ≤ ms) (h : f_X2_creaseOfFirstOrder_31 M = some e) (g : Post (some (.int (e.1))) sh (e.2) L R n) : WX RX2 cX2_creaseOfFirstOrder 6 (some .int) ("creaseOfFirstOrder", []) d mc ms X (px_QF Post mc ms) 31 [] [] sh M L R n cu su := by
  unfold f_X2_creaseOfFirstOrder_31 at h
  refine wx_iconst (v := (-1)) dX2_creaseOfFirstOrder_31 (by decide) ?_
  refine wx_iret dX2_creaseOfFirstOrder_32 hcu hsu ?_
  obtain rfl := Option.some.inj h
  exact g
noncomputable def f_X2_creaseOfFirstOrder (M : px_M) (p1 : Int32) : Option (Int32 × px_M) :=
  bd1 (f_J6_bitCount_0f7a4 (M 1 2)) fun e_10 =>
  nm (((M 1 0) - 1) - e_10) fun v_14 =>
  if p1 < 0 then
    f_X2_creaseOfFirstOrder_31 M
  else
    if v_14 ≤ p1 then
      f_X2_creaseOfFirstOrder_31 M
    else
      bd1 (f_X2_countOrders M) fun e_25 =>
      if e_25.1 = 0 then
        f_X2_creaseOfFirstOrder_31 e_25.2
      else
        nm (e_25.2 1 2) fun v_37 =>
        bd1 (lpf (fun a : Int32 × Int32 × Int32 => f_X2_creaseOfFirstOrder_44 e_25.2 p1 a.1 a.2.1 a.2.2) (v_37, (-1), 0)) fun e_44 =>
        some (e_44, e_25.2)
theorem s_X2_creaseOfFirstOrder {d : Nat} {X : Nat × (Nat → Int32)} {sh : px_Sh} {M : px_M} {L : px_L} {R : px_R} {n : Nat} {p1 : Int32} {e : Int32 × px_M} (hS : SR sh R) (hd : 5 ≤ d) (h : f_X2_creaseOfFirstOrder M p1 = some e) : MX yX2_creaseOfFirstOrder cX2_creaseOfFirstOrder 6 (some .int) d 0 0 X [.ref 1, .int p1] sh M L R n (px_pu (some (.int e.1)) sh e.2 L R n) := by
  refine MX.of (by decide +kernel) (by exact Nat.le_of_ble_eq_true rfl) ?_
  have hcu : 0 ≤ 0 := Nat.zero_le _
  have hsu : 0 ≤ 0 := Nat.zero_le _
  have g : px_pu (some (.int e.1)) sh e.2 L R n (some (.int e.1)) sh e.2 L R n := ⟨rfl, rfl, rfl, rfl, rfl, rfl⟩
  unfold f_X2_creaseOfFirstOrder at h
  refine wx_aload_n dX2_creaseOfFirstOrder_0 rfl ?_
  refine wx_getI dX2_creaseOfFirstOrder_1 fl_X2_24 (sc_1 hS) rfl ?_
  refine wx_iconst (v := 1) dX2_creaseOfFirstOrder_4 (by decide) ?_
  refine wx_isub dX2_creaseOfFirstOrder_5 ?_
  refine wx_aload_n dX2_creaseOfFirstOrder_6 rfl ?_
  refine wx_getI dX2_creaseOfFirstOrder_7 fl_X2_31 (sc_1 hS) rfl ?_
  obtain ⟨e_10, k_10, h⟩ := bd1_some h
  refine wx_cSi dX2_creaseOfFirstOrder_10 ml_X2_85 my_J6_bitCount_0f7a4 sv_J6_bitCount_0f7a4 (s_J6_bitCount_0f7a4 (d := d - 1) hS (by omega) k_10) rfl (by omega) (by exact Nat.le_of_ble_eq_true rfl) hcu hsu ?_
  refine wx_isub dX2_creaseOfFirstOrder_13 ?_
  refine wx_nami (fun v_14 q_14 => ?_)
  replace h := nm_at h q_14
  refine wx_istore_n (lv' := [(2, _), (0, _), (1, _)]) dX2_creaseOfFirstOrder_14 (by decide) rfl ?_
  refine wx_iload_n dX2_creaseOfFirstOrder_15 rfl ?_
  refine wx_if_lt (tgt := 31) dX2_creaseOfFirstOrder_16 (by decide) (fun c_16 => ?_) (fun c_16 => ?_)
  · replace h := it_t h c_16
    exact wx_sub (s_X2_creaseOfFirstOrder_31 hS hd hcu hsu h g) px_0
  · replace h := it_f h c_16
    refine wx_iload_n dX2_creaseOfFirstOrder_19 rfl ?_
    refine wx_iload_n dX2_creaseOfFirstOrder_20 rfl ?_
    refine wx_icmp_ge (tgt := 31) dX2_creaseOfFirstOrder_21 (by decide) (fun c_21 => ?_) (fun c_21 => ?_)
    · replace h := it_t h c_21
      exact wx_sub (s_X2_creaseOfFirstOrder_31 hS hd hcu hsu h g) px_0
    · replace h := it_f h c_21
      refine wx_aload_n dX2_creaseOfFirstOrder_24 rfl ?_
      obtain ⟨e_25, k_25, h⟩ := bd1_some h
      refine wx_cVi dX2_creaseOfFirstOrder_25 ml_X2_90 my_X2_countOrders iv_X2_countOrders (sc_1 hS) (by decide) (s_X2_countOrders (d := d - 1) hS (by omega) k_25) rfl (by omega) (by exact Nat.le_of_ble_eq_true rfl) hcu hsu ?_
      refine wx_if_ne (tgt := 33) dX2_creaseOfFirstOrder_28 (by decide) (fun c_28 => ?_) (fun c_28 => ?_)
      · replace h := it_f h c_28
        refine wx_aload_n dX2_creaseOfFirstOrder_33 rfl ?_
        refine wx_getI dX2_creaseOfFirstOrder_34 fl_X2_31 (sc_1 hS) rfl ?_
        refine wx_nami (fun v_37 q_37 => ?_)
        replace h := nm_at h q_37
        refine wx_istore_n (lv' := [(3, _), (2, _), (0, _), (1, _)]) dX2_creaseOfFirstOrder_37 (by decide) rfl ?_
        refine wx_iconst (v := (-1)) dX2_creaseOfFirstOrder_38 (by decide) ?_
        refine wx_istore (lv' := [(4, _), (3, _), (2, _), (0, _), (1, _)]) dX2_creaseOfFirstOrder_39 (by decide) rfl ?_
        refine wx_iconst (v := 0) dX2_creaseOfFirstOrder_41 (by decide) ?_
        refine wx_istore (lv' := [(5, _), (4, _), (3, _), (2, _), (0, _), (1, _)]) dX2_creaseOfFirstOrder_42 (by decide) rfl ?_
        obtain ⟨e_44, k_44, h⟩ := bd1_some h
        refine wx_sub (s_X2_creaseOfFirstOrder_44 hS hd hcu hsu k_44 ?_) (px_s rfl (px_s rfl (px_s rfl (px_s rfl (px_s rfl px_0)))))
        refine wx_iload dX2_creaseOfFirstOrder_70 rfl ?_
        refine wx_iret dX2_creaseOfFirstOrder_72 hcu hsu ?_
        obtain rfl := Option.some.inj h
        exact g
      · replace h := it_t h c_28
        exact wx_sub (s_X2_creaseOfFirstOrder_31 hS hd hcu hsu h g) px_0
end LIFT
