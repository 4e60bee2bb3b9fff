/-! the reference -/
section LIFT
variable {d mc ms : Nat} {X : Nat × (Nat → Int32)} {Post : px_Post} {sh : px_Sh} {n cu su : Nat}
noncomputable def f_X12_thrown (M : px_M) : Option (Int32) :=
  some (M 73 0)
theorem s_X12_thrown {d : Nat} {X : Nat × (Nat → Int32)} {sh : px_Sh} {M : px_M} {L : px_L} {R : px_R} {n : Nat} {e : Int32} (hS : SR sh R) (hd : 0 ≤ d) (h : f_X12_thrown M = some e) : MX yX12_thrown cX12_thrown 1 (some .int) d 0 0 X [.ref 73] sh M L R n (px_pu (some (.int e)) sh M L R n) := by
  refine MX.of (by decide +kernel) (by exact Nat.le_of_ble_eq_true rfl) ?_
  have hcu : 0 ≤ 0 := Nat.zero_le _
  have hsu : 0 ≤ 0 := Nat.zero_le _
  have g : px_pu (some (.int e)) sh M L R n (some (.int e)) sh M L R n := ⟨rfl, rfl, rfl, rfl, rfl, rfl⟩
  unfold f_X12_thrown at h
  refine wx_aload_n dX12_thrown_0 rfl ?_
  refine wx_getI dX12_thrown_1 fl_X12_179 (sc_73 hS) rfl ?_
  refine wx_iret dX12_thrown_4 hcu hsu ?_
  obtain rfl := Option.some.inj h
  exact g
noncomputable def f_X12_in_15 (z0 : Int32) : Option (Int32) :=
  ok (zb z0) <|
  some z0
theorem s_X12_in_15 {z0 : Int32} {M : px_M} {L : px_L} {R : px_R} {e : (Int32)} (hS : SR sh R) (hd : 0 ≤ d) (hcu : cu ≤ mc) (hsu : su ≤ ms) (h : f_X12_in_15 z0 = some e) (g : Post (some (.int e)) sh M L R n) : WX RX12 cX12_in 3 (some .boolean) ("in", []) d mc ms X (px_QF Post mc ms) 15 [] [.int z0] sh M L R n cu su := by
  unfold f_X12_in_15 at h
  obtain ⟨w_15, h⟩ := ok_some h
  refine wx_zret dX12_in_15 (zb_n w_15) hcu hsu ?_
  obtain rfl := Option.some.inj h
  exact g
noncomputable def f_X12_in_14 : Option (Int32) :=
  f_X12_in_15 0
theorem s_X12_in_14 {M : px_M} {L : px_L} {R : px_R} {e : (Int32)} (hS : SR sh R) (hd : 0 ≤ d) (hcu : cu ≤ mc) (hsu : su ≤ ms) (h : f_X12_in_14 = some e) (g : Post (some (.int e)) sh M L R n) : WX RX12 cX12_in 3 (some .boolean) ("in", []) d mc ms X (px_QF Post mc ms) 14 [] [] sh M L R n cu su := by
  unfold f_X12_in_14 at h
  refine wx_iconst (v := 0) dX12_in_14 (by decide) ?_
  exact wx_sub (s_X12_in_15 hS hd hcu hsu h g) px_0
noncomputable def f_X12_in (p0 : Int32) (p1 : Int32) (p2 : Int32) : Option (Int32) :=
  if p0 < p1 then
    f_X12_in_14
  else
    if p2 < p0 then
      f_X12_in_14
    else
      f_X12_in_15 1
theorem s_X12_in {d : Nat} {X : Nat × (Nat → Int32)} {sh : px_Sh} {M : px_M} {L : px_L} {R : px_R} {n : Nat} {p0 : Int32} {p1 : Int32} {p2 : Int32} {e : Int32} (hS : SR sh R) (hd : 0 ≤ d) (h : f_X12_in p0 p1 p2 = some e) : MX yX12_in cX12_in 3 (some .boolean) d 0 0 X [.int p0, .int p1, .int p2] sh M L R n (px_pu (some (.int e)) sh M L R n) := by
  refine MX.of (by decide +kernel) (by exact Nat.le_of_ble_eq_true rfl) ?_
  have hcu : 0 ≤ 0 := Nat.zero_le _
  have hsu : 0 ≤ 0 := Nat.zero_le _
  have g : px_pu (some (.int e)) sh M L R n (some (.int e)) sh M L R n := ⟨rfl, rfl, rfl, rfl, rfl, rfl⟩
  unfold f_X12_in at h
  refine wx_iload_n dX12_in_0 rfl ?_
  refine wx_iload_n dX12_in_1 rfl ?_
  refine wx_icmp_lt (tgt := 14) dX12_in_2 (by decide) (fun c_2 => ?_) (fun c_2 => ?_)
  · replace h := it_t h c_2
    exact wx_sub (s_X12_in_14 hS hd hcu hsu h g) px_0
  · replace h := it_f h c_2
    refine wx_iload_n dX12_in_5 rfl ?_
    refine wx_iload_n dX12_in_6 rfl ?_
    refine wx_icmp_gt (tgt := 14) dX12_in_7 (by decide) (fun c_7 => ?_) (fun c_7 => ?_)
    · replace h := it_t h c_7
      exact wx_sub (s_X12_in_14 hS hd hcu hsu h g) px_0
    · replace h := it_f h c_7
      refine wx_iconst (v := 1) dX12_in_10 (by decide) ?_
      refine wx_goto (tgt := 15) dX12_in_11 (by decide) ?_
      exact wx_sub (s_X12_in_15 hS hd hcu hsu h g) px_0
noncomputable def f_X12_bad_28 (M : px_M) (z0 : Int32) : Option (Int32 × px_M) :=
  ok (zb z0) <|
  some (z0, M)
theorem s_X12_bad_28 {z0 : Int32} {M : px_M} {L : px_L} {R : px_R} {e : (Int32 × px_M)} (hS : SR sh R) (hd : 0 ≤ d) (hcu : cu ≤ mc) (hsu : su ≤ ms) (h : f_X12_bad_28 M z0 = some e) (g : Post (some (.int (e.1))) sh (e.2) L R n) : WX RX12 cX12_bad 3 (some .boolean) ("bad", []) d mc ms X (px_QF Post mc ms) 28 [] [.int z0] sh M L R n cu su := by
  unfold f_X12_bad_28 at h
  obtain ⟨w_28, h⟩ := ok_some h
  refine wx_zret dX12_bad_28 (zb_n w_28) hcu hsu ?_
  obtain rfl := Option.some.inj h
  exact g
noncomputable def f_X12_bad_16 (M : px_M) : Option (Int32 × px_M) :=
  if (M 73 0) = 0 then
    f_X12_bad_28 M 0
  else
    f_X12_bad_28 M 1
theorem s_X12_bad_16 {M : px_M} {L : px_L} {R : px_R} {e : (Int32 × px_M)} (hS : SR sh R) (hd : 0 ≤ d) (hcu : cu ≤ mc) (hsu : su ≤ ms) (h : f_X12_bad_16 M = some e) (g : Post (some (.int (e.1))) sh (e.2) L R n) : WX RX12 cX12_bad 3 (some .boolean) ("bad", []) d mc ms X (px_QF Post mc ms) 16 [(0, .ref 73)] [] sh M L R n cu su := by
  unfold f_X12_bad_16 at h
  refine wx_aload_n dX12_bad_16 rfl ?_
  refine wx_getI dX12_bad_17 fl_X12_179 (sc_73 hS) rfl ?_
  refine wx_if_eq (tgt := 27) dX12_bad_20 (by decide) (fun c_20 => ?_) (fun c_20 => ?_)
  · replace h := it_t h c_20
    refine wx_iconst (v := 0) dX12_bad_27 (by decide) ?_
    exact wx_sub (s_X12_bad_28 hS hd hcu hsu h g) px_0
  · replace h := it_f h c_20
    refine wx_iconst (v := 1) dX12_bad_23 (by decide) ?_
    refine wx_goto (tgt := 28) dX12_bad_24 (by decide) ?_
    exact wx_sub (s_X12_bad_28 hS hd hcu hsu h g) px_0
noncomputable def f_X12_bad (M : px_M) (p1 : Int32) (p2 : Int32) : Option (Int32 × px_M) :=
  if p1 = 0 then
    f_X12_bad_16 M
  else
    if (M 73 0) = 0 then
      nm (px_u M 73 0 p2) fun M_13 =>
      f_X12_bad_16 M_13
    else
      f_X12_bad_16 M
theorem s_X12_bad {d : Nat} {X : Nat × (Nat → Int32)} {sh : px_Sh} {M : px_M} {L : px_L} {R : px_R} {n : Nat} {p1 : Int32} {p2 : Int32} {e : Int32 × px_M} (hS : SR sh R) (hd : 0 ≤ d) (h : f_X12_bad M p1 p2 = some e) : MX yX12_bad cX12_bad 3 (some .boolean) d 0 0 X [.ref 73, .int p1, .int p2] sh M L R n (px_pu (some (.int e.1)) sh e.2 L R n) := by
  refine MX.of (by decide +kernel) (by exact Nat.le_of_ble_eq_true rfl) ?_
  have hcu : 0 ≤ 0 := Nat.zero_le _
  have hsu : 0 ≤ 0 := Nat.zero_le _
  have g : px_pu (some (.int e.1)) sh e.2 L R n (some (.int e.1)) sh e.2 L R n := ⟨rfl, rfl, rfl, rfl, rfl, rfl⟩
  unfold f_X12_bad at h
  refine wx_iload_n dX12_bad_0 rfl ?_
  refine wx_if_eq (tgt := 16) dX12_bad_1 (by decide) (fun c_1 => ?_) (fun c_1 => ?_)
  · replace h := it_t h c_1
    exact wx_sub (s_X12_bad_16 hS hd hcu hsu h g) (px_s rfl px_0)
  · replace h := it_f h c_1
    refine wx_aload_n dX12_bad_4 rfl ?_
    refine wx_getI dX12_bad_5 fl_X12_179 (sc_73 hS) rfl ?_
    refine wx_if_ne (tgt := 16) dX12_bad_8 (by decide) (fun c_8 => ?_) (fun c_8 => ?_)
    · replace h := it_f h c_8
      exact wx_sub (s_X12_bad_16 hS hd hcu hsu h g) (px_s rfl px_0)
    · replace h := it_t h c_8
      refine wx_aload_n dX12_bad_11 rfl ?_
      refine wx_iload_n dX12_bad_12 rfl ?_
      refine wx_putI dX12_bad_13 fl_X12_179 (sc_73 hS) (Or.inl rfl) rfl ⟨rfl, rfl⟩ ?_
      refine wx_namM (fun M_13 q_13 => ?_)
      replace h := nm_at h q_13
      exact wx_sub (s_X12_bad_16 hS hd hcu hsu h g) (px_s rfl px_0)
noncomputable def f_X12_between_58 (M : px_M) (z0 : Int32) : Option (Int32) :=
  ok (zb z0) <|
  some z0
theorem s_X12_between_58 {z0 : Int32} {M : px_M} {L : px_L} {R : px_R} {e : (Int32)} (hS : SR sh R) (hd : 0 ≤ d) (hcu : cu ≤ mc) (hsu : su ≤ ms) (h : f_X12_between_58 M z0 = some e) (g : Post (some (.int e)) sh M L R n) : WX RX12 cX12_between 5 (some .boolean) ("between", []) d mc ms X (px_QF Post mc ms) 58 [] [.int z0] sh M L R n cu su := by
  unfold f_X12_between_58 at h
  obtain ⟨w_58, h⟩ := ok_some h
  refine wx_zret dX12_between_58 (zb_n w_58) hcu hsu ?_
  obtain rfl := Option.some.inj h
  exact g
noncomputable def f_X12_between_57 (M : px_M) : Option (Int32) :=
  f_X12_between_58 M 0
theorem s_X12_between_57 {M : px_M} {L : px_L} {R : px_R} {e : (Int32)} (hS : SR sh R) (hd : 0 ≤ d) (hcu : cu ≤ mc) (hsu : su ≤ ms) (h : f_X12_between_57 M = some e) (g : Post (some (.int e)) sh M L R n) : WX RX12 cX12_between 5 (some .boolean) ("between", []) d mc ms X (px_QF Post mc ms) 57 [] [] sh M L R n cu su := by
  unfold f_X12_between_57 at h
  refine wx_iconst (v := 0) dX12_between_57 (by decide) ?_
  exact wx_sub (s_X12_between_58 hS hd hcu hsu h g) px_0
noncomputable def f_X12_between_38 (M : px_M) : Option (Int32) :=
  f_X12_between_58 M 0
theorem s_X12_between_38 {M : px_M} {L : px_L} {R : px_R} {e : (Int32)} (hS : SR sh R) (hd : 0 ≤ d) (hcu : cu ≤ mc) (hsu : su ≤ ms) (h : f_X12_between_38 M = some e) (g : Post (some (.int e)) sh M L R n) : WX RX12 cX12_between 5 (some .boolean) ("between", []) d mc ms X (px_QF Post mc ms) 38 [] [] sh M L R n cu su := by
  unfold f_X12_between_38 at h
  refine wx_iconst (v := 0) dX12_between_38 (by decide) ?_
  refine wx_goto (tgt := 58) dX12_between_39 (by decide) ?_
  exact wx_sub (s_X12_between_58 hS hd hcu hsu h g) px_0
noncomputable def f_X12_between (M : px_M) (p1 : Int32) (p2 : Int32) : Option (Int32) :=
  ok (ix p1 8) <|
  nm (M 75 p1.toNatClampNeg) fun v_6 =>
  nm (p1 + 1) fun v_14 =>
  ok (ix v_14 8) <|
  nm (M 75 v_14.toNatClampNeg) fun v_15 =>
  if v_15 ≤ v_6 then
    if p2 ≤ v_15 then
      f_X12_between_57 M
    else
      if v_6 ≤ p2 then
        f_X12_between_57 M
      else
        f_X12_between_58 M 1
  else
    if p2 ≤ v_6 then
      f_X12_between_38 M
    else
      if v_15 ≤ p2 then
        f_X12_between_38 M
      else
        f_X12_between_58 M 1
theorem s_X12_between {d : Nat} {X : Nat × (Nat → Int32)} {sh : px_Sh} {M : px_M} {L : px_L} {R : px_R} {n : Nat} {p1 : Int32} {p2 : Int32} {e : Int32} (hS : SR sh R) (hd : 0 ≤ d) (h : f_X12_between M p1 p2 = some e) : MX yX12_between cX12_between 5 (some .boolean) d 0 0 X [.ref 73, .int p1, .int p2] sh M L R n (px_pu (some (.int e)) sh M L R n) := by
  refine MX.of (by decide +kernel) (by exact Nat.le_of_ble_eq_true rfl) ?_
  have hcu : 0 ≤ 0 := Nat.zero_le _
  have hsu : 0 ≤ 0 := Nat.zero_le _
  have g : px_pu (some (.int e)) sh M L R n (some (.int e)) sh M L R n := ⟨rfl, rfl, rfl, rfl, rfl, rfl⟩
  unfold f_X12_between at h
  refine wx_aload_n dX12_between_0 rfl ?_
  refine wx_getR dX12_between_1 fl_X12_13 (sc_73 hS) rfl (rr_73_5 hS) ?_
  refine wx_iload_n dX12_between_4 rfl ?_
  obtain ⟨w_5, h⟩ := ok_some h
  refine wx_iald dX12_between_5 (sc_75 hS) (ix_in w_5) ?_
  refine wx_nami (fun v_6 q_6 => ?_)
  replace h := nm_at h q_6
  refine wx_istore_n (lv' := [(3, _), (0, _), (1, _), (2, _)]) dX12_between_6 (by decide) rfl ?_
  refine wx_aload_n dX12_between_7 rfl ?_
  refine wx_getR dX12_between_8 fl_X12_13 (sc_73 hS) rfl (rr_73_5 hS) ?_
  refine wx_iload_n dX12_between_11 rfl ?_
  refine wx_iconst (v := 1) dX12_between_12 (by decide) ?_
  refine wx_iadd dX12_between_13 ?_
  refine wx_nami (fun v_14 q_14 => ?_)
  replace h := nm_at h q_14
  obtain ⟨w_14, h⟩ := ok_some h
  refine wx_iald dX12_between_14 (sc_75 hS) (ix_in w_14) ?_
  refine wx_nami (fun v_15 q_15 => ?_)
  replace h := nm_at h q_15
  refine wx_istore (lv' := [(4, _), (3, _), (0, _), (1, _), (2, _)]) dX12_between_15 (by decide) rfl ?_
  refine wx_iload_n dX12_between_17 rfl ?_
  refine wx_iload dX12_between_18 rfl ?_
  refine wx_icmp_ge (tgt := 42) dX12_between_20 (by decide) (fun c_20 => ?_) (fun c_20 => ?_)
  · replace h := it_t h c_20
    refine wx_iload_n dX12_between_42 rfl ?_
    refine wx_iload dX12_between_43 rfl ?_
    refine wx_icmp_le (tgt := 57) dX12_between_45 (by decide) (fun c_45 => ?_) (fun c_45 => ?_)
    · replace h := it_t h c_45
      exact wx_sub (s_X12_between_57 hS hd hcu hsu h g) px_0
    · replace h := it_f h c_45
      refine wx_iload_n dX12_between_48 rfl ?_
      refine wx_iload_n dX12_between_49 rfl ?_
      refine wx_icmp_ge (tgt := 57) dX12_between_50 (by decide) (fun c_50 => ?_) (fun c_50 => ?_)
      · replace h := it_t h c_50
        exact wx_sub (s_X12_between_57 hS hd hcu hsu h g) px_0
      · replace h := it_f h c_50
        refine wx_iconst (v := 1) dX12_between_53 (by decide) ?_
        refine wx_goto (tgt := 58) dX12_between_54 (by decide) ?_
        exact wx_sub (s_X12_between_58 hS hd hcu hsu h g) px_0
  · replace h := it_f h c_20
    refine wx_iload_n dX12_between_23 rfl ?_
    refine wx_iload_n dX12_between_24 rfl ?_
    refine wx_icmp_le (tgt := 38) dX12_between_25 (by decide) (fun c_25 => ?_) (fun c_25 => ?_)
    · replace h := it_t h c_25
      exact wx_sub (s_X12_between_38 hS hd hcu hsu h g) px_0
    · replace h := it_f h c_25
      refine wx_iload_n dX12_between_28 rfl ?_
      refine wx_iload dX12_between_29 rfl ?_
      refine wx_icmp_ge (tgt := 38) dX12_between_31 (by decide) (fun c_31 => ?_) (fun c_31 => ?_)
      · replace h := it_t h c_31
        exact wx_sub (s_X12_between_38 hS hd hcu hsu h g) px_0
      · replace h := it_f h c_31
        refine wx_iconst (v := 1) dX12_between_34 (by decide) ?_
        refine wx_goto (tgt := 58) dX12_between_35 (by decide) ?_
        exact wx_sub (s_X12_between_58 hS hd hcu hsu h g) px_0
noncomputable def f_X12_stands_107 (M : px_M) (x2 : Int32) (x4 : Int32) : Option ((Int32) ⊕ ((Unit) ⊕ (Unit))) :=
  if (M 73 1) ≤ (x4 + 1) then
    some (.inr (.inr ()))
  else
    ok (ix x4 8) <|
    bd1 (f_X12_between M x2 (M 75 x4.toNatClampNeg)) fun e_127 =>
    nm (x4 + 1) fun v_140 =>
    ok (ix v_140 8) <|
    bd1 (f_X12_between M x2 (M 75 v_140.toNatClampNeg)) fun e_141 =>
    if e_127 = e_141 then
      some (.inl (x4 + 2))
    else
      some (.inr (.inl ()))
theorem s_X12_stands_107b {x2 : Int32} {x4 : Int32} {M : px_M} {L : px_L} {R : px_R} {e : ((Int32) ⊕ ((Unit) ⊕ (Unit)))} (hS : SR sh R) (hd : 1 ≤ d) (hcu : cu ≤ mc) (hsu : su ≤ ms) (h : f_X12_stands_107 M x2 x4 = some e) (g : (sE (fun a => WX RX12 cX12_stands 5 (some .boolean) ("stands", []) d mc ms X (px_QF Post mc ms) 107 [(0, .ref 73), (2, .int x2), (4, .int a)] [] sh M L R n cu su) (sE (fun t => WX RX12 cX12_stands 5 (some .boolean) ("stands", []) d mc ms X (px_QF Post mc ms) 147 [] [] sh M L R n cu su) (fun t => WX RX12 cX12_stands 5 (some .boolean) ("stands", []) d mc ms X (px_QF Post mc ms) 155 [(0, .ref 73), (2, .int x2)] [] sh M L R n cu su))) e) : WX RX12 cX12_stands 5 (some .boolean) ("stands", []) d mc ms X (px_QF Post mc ms) 107 [(0, .ref 73), (2, .int x2), (4, .int x4)] [] sh M L R n cu su := by
  unfold f_X12_stands_107 at h
  refine wx_iload dX12_stands_107 rfl ?_
  refine wx_iconst (v := 1) dX12_stands_109 (by decide) ?_
  refine wx_iadd dX12_stands_110 ?_
  refine wx_aload_n dX12_stands_111 rfl ?_
  refine wx_getI dX12_stands_112 fl_X12_182 (sc_73 hS) rfl ?_
  refine wx_icmp_ge (tgt := 155) dX12_stands_115 (by decide) (fun c_115 => ?_) (fun c_115 => ?_)
  · replace h := it_t h c_115
    obtain rfl := Option.some.inj h
    replace g := sE_r (sE_r g)
    exact wx_sub g (px_s rfl (px_s rfl px_0))
  · replace h := it_f h c_115
    refine wx_aload_n dX12_stands_118 rfl ?_
    refine wx_iload_n dX12_stands_119 rfl ?_
    refine wx_aload_n dX12_stands_120 rfl ?_
    refine wx_getR dX12_stands_121 fl_X12_13 (sc_73 hS) rfl (rr_73_5 hS) ?_
    refine wx_iload dX12_stands_124 rfl ?_
    obtain ⟨w_126, h⟩ := ok_some h
    refine wx_iald dX12_stands_126 (sc_75 hS) (ix_in w_126) ?_
    obtain ⟨e_127, k_127, h⟩ := bd1_some h
    refine wx_cVi dX12_stands_127 ml_X12_188 my_X12_between iv_X12_between (sc_73 hS) (by decide) (s_X12_between (d := d - 1) hS (by omega) k_127) rfl (by omega) (by exact Nat.le_of_ble_eq_true rfl) hcu hsu ?_
    refine wx_aload_n dX12_stands_130 rfl ?_
    refine wx_iload_n dX12_stands_131 rfl ?_
    refine wx_aload_n dX12_stands_132 rfl ?_
    refine wx_getR dX12_stands_133 fl_X12_13 (sc_73 hS) rfl (rr_73_5 hS) ?_
    refine wx_iload dX12_stands_136 rfl ?_
    refine wx_iconst (v := 1) dX12_stands_138 (by decide) ?_
    refine wx_iadd dX12_stands_139 ?_
    refine wx_nami (fun v_140 q_140 => ?_)
    replace h := nm_at h q_140
    obtain ⟨w_140, h⟩ := ok_some h
    refine wx_iald dX12_stands_140 (sc_75 hS) (ix_in w_140) ?_
    obtain ⟨e_141, k_141, h⟩ := bd1_some h
    refine wx_cVi dX12_stands_141 ml_X12_188 my_X12_between iv_X12_between (sc_73 hS) (by decide) (s_X12_between (d := d - 1) hS (by omega) k_141) rfl (by omega) (by exact Nat.le_of_ble_eq_true rfl) hcu hsu ?_
    refine wx_icmp_eq (tgt := 149) dX12_stands_144 (by decide) (fun c_144 => ?_) (fun c_144 => ?_)
    · replace h := it_t h c_144
      refine wx_iinc (lv' := [(4, _), (0, _), (2, _)]) dX12_stands_149 rfl (i_2 _) (by decide) rfl ?_
      refine wx_goto (tgt := 107) dX12_stands_152 (by decide) ?_
      obtain rfl := Option.some.inj h
      replace g := sE_l g
      exact wx_sub g (px_s rfl (px_s rfl (px_s rfl px_0)))
    · replace h := it_f h c_144
      obtain rfl := Option.some.inj h
      replace g := sE_l (sE_r g)
      exact wx_sub g px_0
theorem s_X12_stands_107 {x2 : Int32} {x4 : Int32} {M : px_M} {L : px_L} {R : px_R} {e : ((Unit) ⊕ (Unit))} (hS : SR sh R) (hd : 1 ≤ d) (hcu : cu ≤ mc) (hsu : su ≤ ms) (h : lpf (fun a : Int32 => f_X12_stands_107 M x2 a) x4 = some e) (g : (sE (fun t => WX RX12 cX12_stands 5 (some .boolean) ("stands", []) d mc ms X (px_QF Post mc ms) 147 [] [] sh M L R n cu su) (fun t => WX RX12 cX12_stands 5 (some .boolean) ("stands", []) d mc ms X (px_QF Post mc ms) 155 [(0, .ref 73), (2, .int x2)] [] sh M L R n cu su)) e) : WX RX12 cX12_stands 5 (some .boolean) ("stands", []) d mc ms X (px_QF Post mc ms) 107 [(0, .ref 73), (2, .int x2), (4, .int x4)] [] sh M L R n cu su := by
  have key := lpf_wp (P := (fun a => WX RX12 cX12_stands 5 (some .boolean) ("stands", []) d mc ms X (px_QF Post mc ms) 107 [(0, .ref 73), (2, .int x2), (4, .int a)] [] sh M L R n cu su)) (G := (sE (fun t => WX RX12 cX12_stands 5 (some .boolean) ("stands", []) d mc ms X (px_QF Post mc ms) 147 [] [] sh M L R n cu su) (fun t => WX RX12 cX12_stands 5 (some .boolean) ("stands", []) d mc ms X (px_QF Post mc ms) 155 [(0, .ref 73), (2, .int x2)] [] sh M L R n cu su))) (fun a r h g => s_X12_stands_107b (x2 := x2) (x4 := a) (M := M) (L := L) (R := R) hS hd hcu hsu h g) (a := x4) h g
  exact key
noncomputable def f_X12_stands_96 (M : px_M) (x2 : Int32) (x3 : Int32) (z0 : Int32) : Option ((Int32) ⊕ ((Unit) ⊕ ((Unit) ⊕ (Unit)))) :=
  if z0 = x3 then
    nm (x2 + 2) fun v_105 =>
    bdS (lpf (fun a : Int32 => f_X12_stands_107 M x2 a) v_105) (fun t_107_0 =>
    some (.inr (.inr (.inl ())))) (fun u_107_0 =>
    some (.inl (x2 + 1)))
  else
    some (.inr (.inl ()))
theorem s_X12_stands_96 {x2 : Int32} {x3 : Int32} {z0 : Int32} {M : px_M} {L : px_L} {R : px_R} {e : ((Int32) ⊕ ((Unit) ⊕ ((Unit) ⊕ (Unit))))} (hS : SR sh R) (hd : 1 ≤ d) (hcu : cu ≤ mc) (hsu : su ≤ ms) (h : f_X12_stands_96 M x2 x3 z0 = some e) (g : (sE (fun a => WX RX12 cX12_stands 5 (some .boolean) ("stands", []) d mc ms X (px_QF Post mc ms) 27 [(0, .ref 73), (2, .int a)] [] sh M L R n cu su) (sE (fun t => WX RX12 cX12_stands 5 (some .boolean) ("stands", []) d mc ms X (px_QF Post mc ms) 100 [] [] sh M L R n cu su) (sE (fun t => WX RX12 cX12_stands 5 (some .boolean) ("stands", []) d mc ms X (px_QF Post mc ms) 147 [] [] sh M L R n cu su) (fun t => WX RX12 cX12_stands 5 (some .boolean) ("stands", []) d mc ms X (px_QF Post mc ms) 161 [] [] sh M L R n cu su)))) e) : WX RX12 cX12_stands 5 (some .boolean) ("stands", []) d mc ms X (px_QF Post mc ms) 96 [(0, .ref 73), (2, .int x2), (3, .int x3)] [.int z0] sh M L R n cu su := by
  unfold f_X12_stands_96 at h
  refine wx_iload_n dX12_stands_96 rfl ?_
  refine wx_icmp_eq (tgt := 102) dX12_stands_97 (by decide) (fun c_97 => ?_) (fun c_97 => ?_)
  · replace h := it_t h c_97
    refine wx_iload_n dX12_stands_102 rfl ?_
    refine wx_iconst (v := 2) dX12_stands_103 (by decide) ?_
    refine wx_iadd dX12_stands_104 ?_
    refine wx_nami (fun v_105 q_105 => ?_)
    replace h := nm_at h q_105
    refine wx_istore (lv' := [(4, _), (0, _), (2, _), (3, _)]) dX12_stands_105 (by decide) rfl ?_
    rcases bdS_some h with ⟨t_107_0, k_107_0, h⟩ | ⟨u_107_0, k_107_0, h⟩
    · refine wx_sub (s_X12_stands_107 hS hd hcu hsu k_107_0 (sE_li ?_)) (px_s rfl (px_s rfl (px_s rfl px_0)))
      obtain rfl := Option.some.inj h
      replace g := sE_l (sE_r (sE_r g))
      exact wx_sub g px_0
    · refine wx_sub (s_X12_stands_107 hS hd hcu hsu k_107_0 (sE_ri ?_)) (px_s rfl (px_s rfl (px_s rfl px_0)))
      refine wx_iinc (lv' := [(2, _), (0, _)]) dX12_stands_155 rfl (i_1 _) (by decide) rfl ?_
      refine wx_goto (tgt := 27) dX12_stands_158 (by decide) ?_
      obtain rfl := Option.some.inj h
      replace g := sE_l g
      exact wx_sub g (px_s rfl (px_s rfl px_0))
  · replace h := it_f h c_97
    obtain rfl := Option.some.inj h
    replace g := sE_l (sE_r g)
    exact wx_sub g px_0
noncomputable def f_X12_stands_73 (M : px_M) (x2 : Int32) (z0 : Int32) : Option ((Int32) ⊕ ((Unit) ⊕ ((Unit) ⊕ (Unit)))) :=
  nm (x2 + 1) fun v_81 =>
  ok (ix v_81 8) <|
  ok (ix x2 8) <|
  if (M 75 v_81.toNatClampNeg) ≤ (M 75 x2.toNatClampNeg) then
    f_X12_stands_96 M x2 z0 0
  else
    f_X12_stands_96 M x2 z0 1
theorem s_X12_stands_73 {x2 : Int32} {z0 : Int32} {M : px_M} {L : px_L} {R : px_R} {e : ((Int32) ⊕ ((Unit) ⊕ ((Unit) ⊕ (Unit))))} (hS : SR sh R) (hd : 1 ≤ d) (hcu : cu ≤ mc) (hsu : su ≤ ms) (h : f_X12_stands_73 M x2 z0 = some e) (g : (sE (fun a => WX RX12 cX12_stands 5 (some .boolean) ("stands", []) d mc ms X (px_QF Post mc ms) 27 [(0, .ref 73), (2, .int a)] [] sh M L R n cu su) (sE (fun t => WX RX12 cX12_stands 5 (some .boolean) ("stands", []) d mc ms X (px_QF Post mc ms) 100 [] [] sh M L R n cu su) (sE (fun t => WX RX12 cX12_stands 5 (some .boolean) ("stands", []) d mc ms X (px_QF Post mc ms) 147 [] [] sh M L R n cu su) (fun t => WX RX12 cX12_stands 5 (some .boolean) ("stands", []) d mc ms X (px_QF Post mc ms) 161 [] [] sh M L R n cu su)))) e) : WX RX12 cX12_stands 5 (some .boolean) ("stands", []) d mc ms X (px_QF Post mc ms) 73 [(0, .ref 73), (2, .int x2)] [.int z0] sh M L R n cu su := by
  unfold f_X12_stands_73 at h
  refine wx_istore_n (lv' := [(3, _), (0, _), (2, _)]) dX12_stands_73 (by decide) rfl ?_
  refine wx_aload_n dX12_stands_74 rfl ?_
  refine wx_getR dX12_stands_75 fl_X12_13 (sc_73 hS) rfl (rr_73_5 hS) ?_
  refine wx_iload_n dX12_stands_78 rfl ?_
  refine wx_iconst (v := 1) dX12_stands_79 (by decide) ?_
  refine wx_iadd dX12_stands_80 ?_
  refine wx_nami (fun v_81 q_81 => ?_)
  replace h := nm_at h q_81
  obtain ⟨w_81, h⟩ := ok_some h
  refine wx_iald dX12_stands_81 (sc_75 hS) (ix_in w_81) ?_
  refine wx_aload_n dX12_stands_82 rfl ?_
  refine wx_getR dX12_stands_83 fl_X12_13 (sc_73 hS) rfl (rr_73_5 hS) ?_
  refine wx_iload_n dX12_stands_86 rfl ?_
  obtain ⟨w_87, h⟩ := ok_some h
  refine wx_iald dX12_stands_87 (sc_75 hS) (ix_in w_87) ?_
  refine wx_icmp_le (tgt := 95) dX12_stands_88 (by decide) (fun c_88 => ?_) (fun c_88 => ?_)
  · replace h := it_t h c_88
    refine wx_iconst (v := 0) dX12_stands_95 (by decide) ?_
    exact wx_sub (s_X12_stands_96 hS hd hcu hsu h g) (px_s rfl (px_s rfl (px_s rfl px_0)))
  · replace h := it_f h c_88
    refine wx_iconst (v := 1) dX12_stands_91 (by decide) ?_
    refine wx_goto (tgt := 96) dX12_stands_92 (by decide) ?_
    exact wx_sub (s_X12_stands_96 hS hd hcu hsu h g) (px_s rfl (px_s rfl (px_s rfl px_0)))
noncomputable def f_X12_stands_65 (M : px_M) (x2 : Int32) (z0 : Int32) (z1 : Int32) : Option ((Int32) ⊕ ((Unit) ⊕ ((Unit) ⊕ (Unit)))) :=
  if z1 = z0 then
    f_X12_stands_73 M x2 1
  else
    f_X12_stands_73 M x2 0
theorem s_X12_stands_65 {x2 : Int32} {z0 : Int32} {z1 : Int32} {M : px_M} {L : px_L} {R : px_R} {e : ((Int32) ⊕ ((Unit) ⊕ ((Unit) ⊕ (Unit))))} (hS : SR sh R) (hd : 1 ≤ d) (hcu : cu ≤ mc) (hsu : su ≤ ms) (h : f_X12_stands_65 M x2 z0 z1 = some e) (g : (sE (fun a => WX RX12 cX12_stands 5 (some .boolean) ("stands", []) d mc ms X (px_QF Post mc ms) 27 [(0, .ref 73), (2, .int a)] [] sh M L R n cu su) (sE (fun t => WX RX12 cX12_stands 5 (some .boolean) ("stands", []) d mc ms X (px_QF Post mc ms) 100 [] [] sh M L R n cu su) (sE (fun t => WX RX12 cX12_stands 5 (some .boolean) ("stands", []) d mc ms X (px_QF Post mc ms) 147 [] [] sh M L R n cu su) (fun t => WX RX12 cX12_stands 5 (some .boolean) ("stands", []) d mc ms X (px_QF Post mc ms) 161 [] [] sh M L R n cu su)))) e) : WX RX12 cX12_stands 5 (some .boolean) ("stands", []) d mc ms X (px_QF Post mc ms) 65 [(0, .ref 73), (2, .int x2)] [.int z0, .int z1] sh M L R n cu su := by
  unfold f_X12_stands_65 at h
  refine wx_icmp_ne (tgt := 72) dX12_stands_65 (by decide) (fun c_65 => ?_) (fun c_65 => ?_)
  · replace h := it_f h c_65
    refine wx_iconst (v := 0) dX12_stands_72 (by decide) ?_
    exact wx_sub (s_X12_stands_73 hS hd hcu hsu h g) (px_s rfl (px_s rfl px_0))
  · replace h := it_t h c_65
    refine wx_iconst (v := 1) dX12_stands_68 (by decide) ?_
    refine wx_goto (tgt := 73) dX12_stands_69 (by decide) ?_
    exact wx_sub (s_X12_stands_73 hS hd hcu hsu h g) (px_s rfl (px_s rfl px_0))
noncomputable def f_X12_stands_54 (M : px_M) (x2 : Int32) (z0 : Int32) : Option ((Int32) ⊕ ((Unit) ⊕ ((Unit) ⊕ (Unit)))) :=
  if (x2 - x2 / 2 * 2) = 0 then
    f_X12_stands_65 M x2 1 z0
  else
    f_X12_stands_65 M x2 0 z0
theorem s_X12_stands_54 {x2 : Int32} {z0 : Int32} {M : px_M} {L : px_L} {R : px_R} {e : ((Int32) ⊕ ((Unit) ⊕ ((Unit) ⊕ (Unit))))} (hS : SR sh R) (hd : 1 ≤ d) (hcu : cu ≤ mc) (hsu : su ≤ ms) (h : f_X12_stands_54 M x2 z0 = some e) (g : (sE (fun a => WX RX12 cX12_stands 5 (some .boolean) ("stands", []) d mc ms X (px_QF Post mc ms) 27 [(0, .ref 73), (2, .int a)] [] sh M L R n cu su) (sE (fun t => WX RX12 cX12_stands 5 (some .boolean) ("stands", []) d mc ms X (px_QF Post mc ms) 100 [] [] sh M L R n cu su) (sE (fun t => WX RX12 cX12_stands 5 (some .boolean) ("stands", []) d mc ms X (px_QF Post mc ms) 147 [] [] sh M L R n cu su) (fun t => WX RX12 cX12_stands 5 (some .boolean) ("stands", []) d mc ms X (px_QF Post mc ms) 161 [] [] sh M L R n cu su)))) e) : WX RX12 cX12_stands 5 (some .boolean) ("stands", []) d mc ms X (px_QF Post mc ms) 54 [(0, .ref 73), (2, .int x2)] [.int z0] sh M L R n cu su := by
  unfold f_X12_stands_54 at h
  refine wx_iload_n dX12_stands_54 rfl ?_
  refine wx_iconst (v := 2) dX12_stands_55 (by decide) ?_
  refine wx_irem dX12_stands_56 (by decide) ?_
  refine wx_if_ne (tgt := 64) dX12_stands_57 (by decide) (fun c_57 => ?_) (fun c_57 => ?_)
  · replace h := it_f h c_57
    refine wx_iconst (v := 0) dX12_stands_64 (by decide) ?_
    exact wx_sub (s_X12_stands_65 hS hd hcu hsu h g) (px_s rfl (px_s rfl px_0))
  · replace h := it_t h c_57
    refine wx_iconst (v := 1) dX12_stands_60 (by decide) ?_
    refine wx_goto (tgt := 65) dX12_stands_61 (by decide) ?_
    exact wx_sub (s_X12_stands_65 hS hd hcu hsu h g) (px_s rfl (px_s rfl px_0))
noncomputable def f_X12_stands_27 (M : px_M) (x2 : Int32) : Option ((Int32) ⊕ ((Unit) ⊕ ((Unit) ⊕ (Unit)))) :=
  if (M 73 1) ≤ (x2 + 1) then
    some (.inr (.inr (.inr ())))
  else
    if (((M 73 2) >>> (x2 &&& 31)) &&& 1) = 1 then
      f_X12_stands_54 M x2 1
    else
      f_X12_stands_54 M x2 0
theorem s_X12_stands_27b {x2 : Int32} {M : px_M} {L : px_L} {R : px_R} {e : ((Int32) ⊕ ((Unit) ⊕ ((Unit) ⊕ (Unit))))} (hS : SR sh R) (hd : 1 ≤ d) (hcu : cu ≤ mc) (hsu : su ≤ ms) (h : f_X12_stands_27 M x2 = some e) (g : (sE (fun a => WX RX12 cX12_stands 5 (some .boolean) ("stands", []) d mc ms X (px_QF Post mc ms) 27 [(0, .ref 73), (2, .int a)] [] sh M L R n cu su) (sE (fun t => WX RX12 cX12_stands 5 (some .boolean) ("stands", []) d mc ms X (px_QF Post mc ms) 100 [] [] sh M L R n cu su) (sE (fun t => WX RX12 cX12_stands 5 (some .boolean) ("stands", []) d mc ms X (px_QF Post mc ms) 147 [] [] sh M L R n cu su) (fun t => WX RX12 cX12_stands 5 (some .boolean) ("stands", []) d mc ms X (px_QF Post mc ms) 161 [] [] sh M L R n cu su)))) e) : WX RX12 cX12_stands 5 (some .boolean) ("stands", []) d mc ms X (px_QF Post mc ms) 27 [(0, .ref 73), (2, .int x2)] [] sh M L R n cu su := by
  unfold f_X12_stands_27 at h
  refine wx_iload_n dX12_stands_27 rfl ?_
  refine wx_iconst (v := 1) dX12_stands_28 (by decide) ?_
  refine wx_iadd dX12_stands_29 ?_
  refine wx_aload_n dX12_stands_30 rfl ?_
  refine wx_getI dX12_stands_31 fl_X12_182 (sc_73 hS) rfl ?_
  refine wx_icmp_ge (tgt := 161) dX12_stands_34 (by decide) (fun c_34 => ?_) (fun c_34 => ?_)
  · replace h := it_t h c_34
    obtain rfl := Option.some.inj h
    replace g := sE_r (sE_r (sE_r g))
    exact wx_sub g px_0
  · replace h := it_f h c_34
    refine wx_aload_n dX12_stands_37 rfl ?_
    refine wx_getI dX12_stands_38 fl_X12_185 (sc_73 hS) rfl ?_
    refine wx_iload_n dX12_stands_41 rfl ?_
    refine wx_ishr dX12_stands_42 ?_
    refine wx_iconst (v := 1) dX12_stands_43 (by decide) ?_
    refine wx_iand dX12_stands_44 ?_
    refine wx_iconst (v := 1) dX12_stands_45 (by decide) ?_
    refine wx_icmp_ne (tgt := 53) dX12_stands_46 (by decide) (fun c_46 => ?_) (fun c_46 => ?_)
    · replace h := it_f h c_46
      refine wx_iconst (v := 0) dX12_stands_53 (by decide) ?_
      exact wx_sub (s_X12_stands_54 hS hd hcu hsu h g) (px_s rfl (px_s rfl px_0))
    · replace h := it_t h c_46
      refine wx_iconst (v := 1) dX12_stands_49 (by decide) ?_
      refine wx_goto (tgt := 54) dX12_stands_50 (by decide) ?_
      exact wx_sub (s_X12_stands_54 hS hd hcu hsu h g) (px_s rfl (px_s rfl px_0))
theorem s_X12_stands_27 {x2 : Int32} {M : px_M} {L : px_L} {R : px_R} {e : ((Unit) ⊕ ((Unit) ⊕ (Unit)))} (hS : SR sh R) (hd : 1 ≤ d) (hcu : cu ≤ mc) (hsu : su ≤ ms) (h : lpf (fun a : Int32 => f_X12_stands_27 M a) x2 = some e) (g : (sE (fun t => WX RX12 cX12_stands 5 (some .boolean) ("stands", []) d mc ms X (px_QF Post mc ms) 100 [] [] sh M L R n cu su) (sE (fun t => WX RX12 cX12_stands 5 (some .boolean) ("stands", []) d mc ms X (px_QF Post mc ms) 147 [] [] sh M L R n cu su) (fun t => WX RX12 cX12_stands 5 (some .boolean) ("stands", []) d mc ms X (px_QF Post mc ms) 161 [] [] sh M L R n cu su))) e) : WX RX12 cX12_stands 5 (some .boolean) ("stands", []) d mc ms X (px_QF Post mc ms) 27 [(0, .ref 73), (2, .int x2)] [] sh M L R n cu su := by
  have key := lpf_wp (P := (fun a => WX RX12 cX12_stands 5 (some .boolean) ("stands", []) d mc ms X (px_QF Post mc ms) 27 [(0, .ref 73), (2, .int a)] [] sh M L R n cu su)) (G := (sE (fun t => WX RX12 cX12_stands 5 (some .boolean) ("stands", []) d mc ms X (px_QF Post mc ms) 100 [] [] sh M L R n cu su) (sE (fun t => WX RX12 cX12_stands 5 (some .boolean) ("stands", []) d mc ms X (px_QF Post mc ms) 147 [] [] sh M L R n cu su) (fun t => WX RX12 cX12_stands 5 (some .boolean) ("stands", []) d mc ms X (px_QF Post mc ms) 161 [] [] sh M L R n cu su)))) (fun a r h g => s_X12_stands_27b (x2 := a) (M := M) (L := L) (R := R) hS hd hcu hsu h g) (a := x2) h g
  exact key
noncomputable def f_X12_stands_2 (M : px_M) (x2 : Int32) : Option ((Int32 × px_M) ⊕ (px_M)) :=
  if (M 73 1) ≤ x2 then
    some (.inr M)
  else
    ok (ix x2 8) <|
    ok (ix (M 76 x2.toNatClampNeg) 8) <|
    nm (px_u M 75 (M 76 x2.toNatClampNeg).toNatClampNeg x2) fun M_18 =>
    some (.inl ((x2 + 1), M_18))
theorem s_X12_stands_2b {x2 : Int32} {M : px_M} {L : px_L} {R : px_R} {e : ((Int32 × px_M) ⊕ (px_M))} (hS : SR sh R) (hd : 1 ≤ d) (hcu : cu ≤ mc) (hsu : su ≤ ms) (h : f_X12_stands_2 M x2 = some e) (g : (sE (fun a => WX RX12 cX12_stands 5 (some .boolean) ("stands", []) d mc ms X (px_QF Post mc ms) 2 [(0, .ref 73), (1, .ref 76), (2, .int a.1)] [] sh (a.2) L R n cu su) (fun t => WX RX12 cX12_stands 5 (some .boolean) ("stands", []) d mc ms X (px_QF Post mc ms) 25 [(0, .ref 73)] [] sh t L R n cu su)) e) : WX RX12 cX12_stands 5 (some .boolean) ("stands", []) d mc ms X (px_QF Post mc ms) 2 [(0, .ref 73), (1, .ref 76), (2, .int x2)] [] sh M L R n cu su := by
  unfold f_X12_stands_2 at h
  refine wx_iload_n dX12_stands_2 rfl ?_
  refine wx_aload_n dX12_stands_3 rfl ?_
  refine wx_getI dX12_stands_4 fl_X12_182 (sc_73 hS) rfl ?_
  refine wx_icmp_ge (tgt := 25) dX12_stands_7 (by decide) (fun c_7 => ?_) (fun c_7 => ?_)
  · replace h := it_t h c_7
    obtain rfl := Option.some.inj h
    replace g := sE_r g
    exact wx_sub g (px_s rfl px_0)
  · replace h := it_f h c_7
    refine wx_aload_n dX12_stands_10 rfl ?_
    refine wx_getR dX12_stands_11 fl_X12_13 (sc_73 hS) rfl (rr_73_5 hS) ?_
    refine wx_aload_n dX12_stands_14 rfl ?_
    refine wx_iload_n dX12_stands_15 rfl ?_
    obtain ⟨w_16, h⟩ := ok_some h
    refine wx_iald dX12_stands_16 (sc_76 hS) (ix_in w_16) ?_
    refine wx_iload_n dX12_stands_17 rfl ?_
    obtain ⟨w_18, h⟩ := ok_some h
    refine wx_iast dX12_stands_18 (sc_75 hS) (ix_in w_18) ?_
    refine wx_namM (fun M_18 q_18 => ?_)
    replace h := nm_at h q_18
    refine wx_iinc (lv' := [(2, _), (0, _), (1, _)]) dX12_stands_19 rfl (i_1 _) (by decide) rfl ?_
    refine wx_goto (tgt := 2) dX12_stands_22 (by decide) ?_
    obtain rfl := Option.some.inj h
    replace g := sE_l g
    exact wx_sub g (px_s rfl (px_s rfl (px_s rfl px_0)))
theorem s_X12_stands_2 {x2 : Int32} {M : px_M} {L : px_L} {R : px_R} {e : (px_M)} (hS : SR sh R) (hd : 1 ≤ d) (hcu : cu ≤ mc) (hsu : su ≤ ms) (h : lpf (fun a : Int32 × px_M => f_X12_stands_2 a.2 a.1) (x2, M) = some e) (g : WX RX12 cX12_stands 5 (some .boolean) ("stands", []) d mc ms X (px_QF Post mc ms) 25 [(0, .ref 73)] [] sh e L R n cu su) : WX RX12 cX12_stands 5 (some .boolean) ("stands", []) d mc ms X (px_QF Post mc ms) 2 [(0, .ref 73), (1, .ref 76), (2, .int x2)] [] sh M L R n cu su := by
  have key := lpf_wp (P := (fun a => WX RX12 cX12_stands 5 (some .boolean) ("stands", []) d mc ms X (px_QF Post mc ms) 2 [(0, .ref 73), (1, .ref 76), (2, .int a.1)] [] sh (a.2) L R n cu su)) (G := (fun t => WX RX12 cX12_stands 5 (some .boolean) ("stands", []) d mc ms X (px_QF Post mc ms) 25 [(0, .ref 73)] [] sh t L R n cu su)) (fun a r h g => s_X12_stands_2b (x2 := a.1) (M := a.2) (L := L) (R := R) hS hd hcu hsu h g) (a := (x2, M)) h g
  exact key
noncomputable def f_X12_stands (M : px_M) : Option (Int32 × px_M) :=
  bd1 (lpf (fun a : Int32 × px_M => f_X12_stands_2 a.2 a.1) (0, M)) fun e_2 =>
  bdS (lpf (fun a : Int32 => f_X12_stands_27 e_2 a) 0) (fun t_27_0 =>
  some (0, e_2)) (fun u_27_0 =>
  bdS (some u_27_0) (fun t_27_1 =>
    some (0, e_2)) (fun u_27_1 =>
    some (1, e_2)))
theorem s_X12_stands {d : Nat} {X : Nat × (Nat → Int32)} {sh : px_Sh} {M : px_M} {L : px_L} {R : px_R} {n : Nat} {e : Int32 × px_M} (hS : SR sh R) (hd : 1 ≤ d) (h : f_X12_stands M = some e) : MX yX12_stands cX12_stands 5 (some .boolean) d 0 0 X [.ref 73, .ref 76] sh M L R n (px_pu (some (.int e.1)) sh e.2 L R n) := by
  refine MX.of (by decide +kernel) (by exact Nat.le_of_ble_eq_true rfl) ?_
  have hcu : 0 ≤ 0 := Nat.zero_le _
  have hsu : 0 ≤ 0 := Nat.zero_le _
  have g : px_pu (some (.int e.1)) sh e.2 L R n (some (.int e.1)) sh e.2 L R n := ⟨rfl, rfl, rfl, rfl, rfl, rfl⟩
  unfold f_X12_stands at h
  refine wx_iconst (v := 0) dX12_stands_0 (by decide) ?_
  refine wx_istore_n (lv' := [(2, _), (0, _), (1, _)]) dX12_stands_1 (by decide) rfl ?_
  obtain ⟨e_2, k_2, h⟩ := bd1_some h
  refine wx_sub (s_X12_stands_2 hS hd hcu hsu k_2 ?_) (px_s rfl (px_s rfl (px_s rfl px_0)))
  refine wx_iconst (v := 0) dX12_stands_25 (by decide) ?_
  refine wx_istore_n (lv' := [(2, _), (0, _)]) dX12_stands_26 (by decide) rfl ?_
  rcases bdS_some h with ⟨t_27_0, k_27_0, h⟩ | ⟨u_27_0, k_27_0, h⟩
  · refine wx_sub (s_X12_stands_27 hS hd hcu hsu k_27_0 (sE_li ?_)) (px_s rfl (px_s rfl px_0))
    refine wx_iconst (v := 0) dX12_stands_100 (by decide) ?_
    refine wx_zret dX12_stands_101 rfl hcu hsu ?_
    obtain rfl := Option.some.inj h
    exact g
  · rcases bdS_some h with ⟨t_27_1, k_27_1, h⟩ | ⟨u_27_1, k_27_1, h⟩
    · obtain rfl := Option.some.inj k_27_1
      refine wx_sub (s_X12_stands_27 hS hd hcu hsu k_27_0 (sE_ri (sE_li ?_))) (px_s rfl (px_s rfl px_0))
      refine wx_iconst (v := 0) dX12_stands_147 (by decide) ?_
      refine wx_zret dX12_stands_148 rfl hcu hsu ?_
      obtain rfl := Option.some.inj h
      exact g
    · obtain rfl := Option.some.inj k_27_1
      refine wx_sub (s_X12_stands_27 hS hd hcu hsu k_27_0 (sE_ri (sE_ri ?_))) (px_s rfl (px_s rfl px_0))
      refine wx_iconst (v := 1) dX12_stands_161 (by decide) ?_
      refine wx_zret dX12_stands_162 rfl hcu hsu ?_
      obtain rfl := Option.some.inj h
      exact g
noncomputable def o_X12_goThrough_107 (r_X12_goThrough : px_M → Int32 → Int32 → Option (px_M)) (M : px_M) (x1 : Int32) (x2 : Int32) (x3 : Int32) : Option ((Int32 × px_M) ⊕ (px_M)) :=
  some (.inl ((x3 + 1), M))
theorem so_X12_goThrough_107 {dr : Nat} {r_X12_goThrough : px_M → Int32 → Int32 → Option (px_M)} {x1 : Int32} {x2 : Int32} {x3 : Int32} {M : px_M} {L : px_L} {R : px_R} {e : ((Int32 × px_M) ⊕ (px_M))} (h_X12_goThrough : ∀ {d : Nat} {X : Nat × (Nat → Int32)} {sh : px_Sh} {M : px_M} {L : px_L} {R : px_R} {n : Nat} {p1 : Int32} {p2 : Int32} {e : px_M}, SR sh R → dr ≤ d → r_X12_goThrough M p1 p2 = some e → MX yX12_goThrough cX12_goThrough 4 none d 0 0 X [.ref 73, .int p1, .int p2] sh M L R n (px_pu none sh e L R n)) (hS : SR sh R) (hd : 2 ≤ d) (hdr : dr + 1 ≤ d) (hcu : cu ≤ mc) (hsu : su ≤ ms) (h : o_X12_goThrough_107 r_X12_goThrough M x1 x2 x3 = some e) (g : (sE (fun a => WX RX12 cX12_goThrough 4 none ("goThrough", []) d mc ms X (px_QF Post mc ms) 68 [(0, .ref 73), (1, .int x1), (2, .int x2), (3, .int a.1)] [] sh (a.2) L R n cu su) (fun t => WX RX12 cX12_goThrough 4 none ("goThrough", []) d mc ms X (px_QF Post mc ms) 113 [] [] sh t L R n cu su)) e) : WX RX12 cX12_goThrough 4 none ("goThrough", []) d mc ms X (px_QF Post mc ms) 107 [(0, .ref 73), (1, .int x1), (2, .int x2), (3, .int x3)] [] sh M L R n cu su := by
  unfold o_X12_goThrough_107 at h
  refine wx_iinc (lv' := [(3, _), (0, _), (1, _), (2, _)]) dX12_goThrough_107 rfl (i_1 _) (by decide) rfl ?_
  refine wx_goto (tgt := 68) dX12_goThrough_110 (by decide) ?_
  obtain rfl := Option.some.inj h
  replace g := sE_l g
  exact wx_sub g (px_s rfl (px_s rfl (px_s rfl (px_s rfl px_0))))
noncomputable def o_X12_goThrough_68 (r_X12_goThrough : px_M → Int32 → Int32 → Option (px_M)) (M : px_M) (x1 : Int32) (x2 : Int32) (x3 : Int32) : Option ((Int32 × px_M) ⊕ (px_M)) :=
  if (M 73 1) ≤ x3 then
    some (.inr M)
  else
    if ((x2 >>> (x3 &&& 31)) &&& 1) = 1 then
      o_X12_goThrough_107 r_X12_goThrough M x1 x2 x3
    else
      ok (ix x1 8) <|
      nm (px_u M 76 x1.toNatClampNeg x3) fun M_94 =>
      bd1 (r_X12_goThrough M_94 (x1 + 1) (x2 ||| (1 <<< (x3 &&& 31)))) fun e_104 =>
      o_X12_goThrough_107 r_X12_goThrough e_104 x1 x2 x3
theorem so_X12_goThrough_68b {dr : Nat} {r_X12_goThrough : px_M → Int32 → Int32 → Option (px_M)} {x1 : Int32} {x2 : Int32} {x3 : Int32} {M : px_M} {L : px_L} {R : px_R} {e : ((Int32 × px_M) ⊕ (px_M))} (h_X12_goThrough : ∀ {d : Nat} {X : Nat × (Nat → Int32)} {sh : px_Sh} {M : px_M} {L : px_L} {R : px_R} {n : Nat} {p1 : Int32} {p2 : Int32} {e : px_M}, SR sh R → dr ≤ d → r_X12_goThrough M p1 p2 = some e → MX yX12_goThrough cX12_goThrough 4 none d 0 0 X [.ref 73, .int p1, .int p2] sh M L R n (px_pu none sh e L R n)) (hS : SR sh R) (hd : 2 ≤ d) (hdr : dr + 1 ≤ d) (hcu : cu ≤ mc) (hsu : su ≤ ms) (h : o_X12_goThrough_68 r_X12_goThrough M x1 x2 x3 = some e) (g : (sE (fun a => WX RX12 cX12_goThrough 4 none ("goThrough", []) d mc ms X (px_QF Post mc ms) 68 [(0, .ref 73), (1, .int x1), (2, .int x2), (3, .int a.1)] [] sh (a.2) L R n cu su) (fun t => WX RX12 cX12_goThrough 4 none ("goThrough", []) d mc ms X (px_QF Post mc ms) 113 [] [] sh t L R n cu su)) e) : WX RX12 cX12_goThrough 4 none ("goThrough", []) d mc ms X (px_QF Post mc ms) 68 [(0, .ref 73), (1, .int x1), (2, .int x2), (3, .int x3)] [] sh M L R n cu su := by
  unfold o_X12_goThrough_68 at h
  refine wx_iload_n dX12_goThrough_68 rfl ?_
  refine wx_aload_n dX12_goThrough_69 rfl ?_
  refine wx_getI dX12_goThrough_70 fl_X12_182 (sc_73 hS) rfl ?_
  refine wx_icmp_ge (tgt := 113) dX12_goThrough_73 (by decide) (fun c_73 => ?_) (fun c_73 => ?_)
  · replace h := it_t h c_73
    obtain rfl := Option.some.inj h
    replace g := sE_r g
    exact wx_sub g px_0
  · replace h := it_f h c_73
    refine wx_iload_n dX12_goThrough_76 rfl ?_
    refine wx_iload_n dX12_goThrough_77 rfl ?_
    refine wx_ishr dX12_goThrough_78 ?_
    refine wx_iconst (v := 1) dX12_goThrough_79 (by decide) ?_
    refine wx_iand dX12_goThrough_80 ?_
    refine wx_iconst (v := 1) dX12_goThrough_81 (by decide) ?_
    refine wx_icmp_ne (tgt := 88) dX12_goThrough_82 (by decide) (fun c_82 => ?_) (fun c_82 => ?_)
    · replace h := it_f h c_82
      refine wx_aload_n dX12_goThrough_88 rfl ?_
      refine wx_getR dX12_goThrough_89 fl_X12_16 (sc_73 hS) rfl (rr_73_6 hS) ?_
      refine wx_iload_n dX12_goThrough_92 rfl ?_
      refine wx_iload_n dX12_goThrough_93 rfl ?_
      obtain ⟨w_94, h⟩ := ok_some h
      refine wx_iast dX12_goThrough_94 (sc_76 hS) (ix_in w_94) ?_
      refine wx_namM (fun M_94 q_94 => ?_)
      replace h := nm_at h q_94
      refine wx_aload_n dX12_goThrough_95 rfl ?_
      refine wx_iload_n dX12_goThrough_96 rfl ?_
      refine wx_iconst (v := 1) dX12_goThrough_97 (by decide) ?_
      refine wx_iadd dX12_goThrough_98 ?_
      refine wx_iload_n dX12_goThrough_99 rfl ?_
      refine wx_iconst (v := 1) dX12_goThrough_100 (by decide) ?_
      refine wx_iload_n dX12_goThrough_101 rfl ?_
      refine wx_ishl dX12_goThrough_102 ?_
      refine wx_ior dX12_goThrough_103 ?_
      obtain ⟨e_104, k_104, h⟩ := bd1_some h
      refine wx_cVv dX12_goThrough_104 ml_X12_199 my_X12_goThrough iv_X12_goThrough (sc_73 hS) (by decide) (h_X12_goThrough (d := d - 1) hS (by omega) k_104) rfl (by omega) (by exact Nat.le_of_ble_eq_true rfl) hcu hsu ?_
      exact wx_sub (so_X12_goThrough_107 h_X12_goThrough hS hd hdr hcu hsu h g) (px_s rfl (px_s rfl (px_s rfl (px_s rfl px_0))))
    · replace h := it_t h c_82
      refine wx_goto (tgt := 107) dX12_goThrough_85 (by decide) ?_
      exact wx_sub (so_X12_goThrough_107 h_X12_goThrough hS hd hdr hcu hsu h g) (px_s rfl (px_s rfl (px_s rfl (px_s rfl px_0))))
theorem so_X12_goThrough_68 {dr : Nat} {r_X12_goThrough : px_M → Int32 → Int32 → Option (px_M)} {x1 : Int32} {x2 : Int32} {x3 : Int32} {M : px_M} {L : px_L} {R : px_R} {e : (px_M)} (h_X12_goThrough : ∀ {d : Nat} {X : Nat × (Nat → Int32)} {sh : px_Sh} {M : px_M} {L : px_L} {R : px_R} {n : Nat} {p1 : Int32} {p2 : Int32} {e : px_M}, SR sh R → dr ≤ d → r_X12_goThrough M p1 p2 = some e → MX yX12_goThrough cX12_goThrough 4 none d 0 0 X [.ref 73, .int p1, .int p2] sh M L R n (px_pu none sh e L R n)) (hS : SR sh R) (hd : 2 ≤ d) (hdr : dr + 1 ≤ d) (hcu : cu ≤ mc) (hsu : su ≤ ms) (h : lpf (fun a : Int32 × px_M => o_X12_goThrough_68 r_X12_goThrough a.2 x1 x2 a.1) (x3, M) = some e) (g : WX RX12 cX12_goThrough 4 none ("goThrough", []) d mc ms X (px_QF Post mc ms) 113 [] [] sh e L R n cu su) : WX RX12 cX12_goThrough 4 none ("goThrough", []) d mc ms X (px_QF Post mc ms) 68 [(0, .ref 73), (1, .int x1), (2, .int x2), (3, .int x3)] [] sh M L R n cu su := by
  have key := lpf_wp (P := (fun a => WX RX12 cX12_goThrough 4 none ("goThrough", []) d mc ms X (px_QF Post mc ms) 68 [(0, .ref 73), (1, .int x1), (2, .int x2), (3, .int a.1)] [] sh (a.2) L R n cu su)) (G := (fun t => WX RX12 cX12_goThrough 4 none ("goThrough", []) d mc ms X (px_QF Post mc ms) 113 [] [] sh t L R n cu su)) (fun a r h g => so_X12_goThrough_68b (x1 := x1) (x2 := x2) (x3 := a.1) (M := a.2) (L := L) (R := R) h_X12_goThrough hS hd hdr hcu hsu h g) (a := (x3, M)) h g
  exact key
noncomputable def o_X12_goThrough_29 (r_X12_goThrough : px_M → Int32 → Int32 → Option (px_M)) (M : px_M) (x3 : Int32) : Option ((Int32 × px_M) ⊕ (px_M)) :=
  if (M 73 1) ≤ x3 then
    some (.inr M)
  else
    ok (ix x3 8) <|
    nm (M 76 x3.toNatClampNeg) fun v_48 =>
    ok (ix x3 8) <|
    nm (px_u M 74 x3.toNatClampNeg v_48) fun M_48 =>
    some (.inl ((x3 + 1), M_48))
theorem so_X12_goThrough_29b {dr : Nat} {r_X12_goThrough : px_M → Int32 → Int32 → Option (px_M)} {x3 : Int32} {M : px_M} {L : px_L} {R : px_R} {e : ((Int32 × px_M) ⊕ (px_M))} (h_X12_goThrough : ∀ {d : Nat} {X : Nat × (Nat → Int32)} {sh : px_Sh} {M : px_M} {L : px_L} {R : px_R} {n : Nat} {p1 : Int32} {p2 : Int32} {e : px_M}, SR sh R → dr ≤ d → r_X12_goThrough M p1 p2 = some e → MX yX12_goThrough cX12_goThrough 4 none d 0 0 X [.ref 73, .int p1, .int p2] sh M L R n (px_pu none sh e L R n)) (hS : SR sh R) (hd : 2 ≤ d) (hdr : dr + 1 ≤ d) (hcu : cu ≤ mc) (hsu : su ≤ ms) (h : o_X12_goThrough_29 r_X12_goThrough M x3 = some e) (g : (sE (fun a => WX RX12 cX12_goThrough 4 none ("goThrough", []) d mc ms X (px_QF Post mc ms) 29 [(0, .ref 73), (3, .int a.1)] [] sh (a.2) L R n cu su) (fun t => WX RX12 cX12_goThrough 4 none ("goThrough", []) d mc ms X (px_QF Post mc ms) 55 [(0, .ref 73)] [] sh t L R n cu su)) e) : WX RX12 cX12_goThrough 4 none ("goThrough", []) d mc ms X (px_QF Post mc ms) 29 [(0, .ref 73), (3, .int x3)] [] sh M L R n cu su := by
  unfold o_X12_goThrough_29 at h
  refine wx_iload_n dX12_goThrough_29 rfl ?_
  refine wx_aload_n dX12_goThrough_30 rfl ?_
  refine wx_getI dX12_goThrough_31 fl_X12_182 (sc_73 hS) rfl ?_
  refine wx_icmp_ge (tgt := 55) dX12_goThrough_34 (by decide) (fun c_34 => ?_) (fun c_34 => ?_)
  · replace h := it_t h c_34
    obtain rfl := Option.some.inj h
    replace g := sE_r g
    exact wx_sub g (px_s rfl px_0)
  · replace h := it_f h c_34
    refine wx_aload_n dX12_goThrough_37 rfl ?_
    refine wx_getR dX12_goThrough_38 fl_X12_7 (sc_73 hS) rfl (rr_73_4 hS) ?_
    refine wx_iload_n dX12_goThrough_41 rfl ?_
    refine wx_aload_n dX12_goThrough_42 rfl ?_
    refine wx_getR dX12_goThrough_43 fl_X12_16 (sc_73 hS) rfl (rr_73_6 hS) ?_
    refine wx_iload_n dX12_goThrough_46 rfl ?_
    obtain ⟨w_47, h⟩ := ok_some h
    refine wx_iald dX12_goThrough_47 (sc_76 hS) (ix_in w_47) ?_
    refine wx_nami (fun v_48 q_48 => ?_)
    replace h := nm_at h q_48
    obtain ⟨w_48, h⟩ := ok_some h
    refine wx_iast dX12_goThrough_48 (sc_74 hS) (ix_in w_48) ?_
    refine wx_namM (fun M_48 q_48 => ?_)
    replace h := nm_at h q_48
    refine wx_iinc (lv' := [(3, _), (0, _)]) dX12_goThrough_49 rfl (i_1 _) (by decide) rfl ?_
    refine wx_goto (tgt := 29) dX12_goThrough_52 (by decide) ?_
    obtain rfl := Option.some.inj h
    replace g := sE_l g
    exact wx_sub g (px_s rfl (px_s rfl px_0))
theorem so_X12_goThrough_29 {dr : Nat} {r_X12_goThrough : px_M → Int32 → Int32 → Option (px_M)} {x3 : Int32} {M : px_M} {L : px_L} {R : px_R} {e : (px_M)} (h_X12_goThrough : ∀ {d : Nat} {X : Nat × (Nat → Int32)} {sh : px_Sh} {M : px_M} {L : px_L} {R : px_R} {n : Nat} {p1 : Int32} {p2 : Int32} {e : px_M}, SR sh R → dr ≤ d → r_X12_goThrough M p1 p2 = some e → MX yX12_goThrough cX12_goThrough 4 none d 0 0 X [.ref 73, .int p1, .int p2] sh M L R n (px_pu none sh e L R n)) (hS : SR sh R) (hd : 2 ≤ d) (hdr : dr + 1 ≤ d) (hcu : cu ≤ mc) (hsu : su ≤ ms) (h : lpf (fun a : Int32 × px_M => o_X12_goThrough_29 r_X12_goThrough a.2 a.1) (x3, M) = some e) (g : WX RX12 cX12_goThrough 4 none ("goThrough", []) d mc ms X (px_QF Post mc ms) 55 [(0, .ref 73)] [] sh e L R n cu su) : WX RX12 cX12_goThrough 4 none ("goThrough", []) d mc ms X (px_QF Post mc ms) 29 [(0, .ref 73), (3, .int x3)] [] sh M L R n cu su := by
  have key := lpf_wp (P := (fun a => WX RX12 cX12_goThrough 4 none ("goThrough", []) d mc ms X (px_QF Post mc ms) 29 [(0, .ref 73), (3, .int a.1)] [] sh (a.2) L R n cu su)) (G := (fun t => WX RX12 cX12_goThrough 4 none ("goThrough", []) d mc ms X (px_QF Post mc ms) 55 [(0, .ref 73)] [] sh t L R n cu su)) (fun a r h g => so_X12_goThrough_29b (x3 := a.1) (M := a.2) (L := L) (R := R) h_X12_goThrough hS hd hdr hcu hsu h g) (a := (x3, M)) h g
  exact key
noncomputable def o_X12_goThrough_55 (r_X12_goThrough : px_M → Int32 → Int32 → Option (px_M)) (M : px_M) : Option (px_M) :=
  nm ((M 73 3) + 1) fun v_62 =>
  nm (px_u M 73 3 v_62) fun M_62 =>
  some M_62
theorem so_X12_goThrough_55 {dr : Nat} {r_X12_goThrough : px_M → Int32 → Int32 → Option (px_M)} {M : px_M} {L : px_L} {R : px_R} {e : (px_M)} (h_X12_goThrough : ∀ {d : Nat} {X : Nat × (Nat → Int32)} {sh : px_Sh} {M : px_M} {L : px_L} {R : px_R} {n : Nat} {p1 : Int32} {p2 : Int32} {e : px_M}, SR sh R → dr ≤ d → r_X12_goThrough M p1 p2 = some e → MX yX12_goThrough cX12_goThrough 4 none d 0 0 X [.ref 73, .int p1, .int p2] sh M L R n (px_pu none sh e L R n)) (hS : SR sh R) (hd : 2 ≤ d) (hdr : dr + 1 ≤ d) (hcu : cu ≤ mc) (hsu : su ≤ ms) (h : o_X12_goThrough_55 r_X12_goThrough M = some e) (g : Post none sh e L R n) : WX RX12 cX12_goThrough 4 none ("goThrough", []) d mc ms X (px_QF Post mc ms) 55 [(0, .ref 73)] [] sh M L R n cu su := by
  unfold o_X12_goThrough_55 at h
  refine wx_aload_n dX12_goThrough_55 rfl ?_
  refine wx_dup dX12_goThrough_56 rfl ?_
  refine wx_getI dX12_goThrough_57 fl_X12_196 (sc_73 hS) rfl ?_
  refine wx_iconst (v := 1) dX12_goThrough_60 (by decide) ?_
  refine wx_iadd dX12_goThrough_61 ?_
  refine wx_nami (fun v_62 q_62 => ?_)
  replace h := nm_at h q_62
  refine wx_putI dX12_goThrough_62 fl_X12_196 (sc_73 hS) (Or.inl rfl) rfl ⟨rfl, rfl⟩ ?_
  refine wx_namM (fun M_62 q_62 => ?_)
  replace h := nm_at h q_62
  refine wx_vret dX12_goThrough_65 hcu hsu ?_
  obtain rfl := Option.some.inj h
  exact g
noncomputable def o_X12_goThrough (r_X12_goThrough : px_M → Int32 → Int32 → Option (px_M)) (M : px_M) (p1 : Int32) (p2 : Int32) : Option (px_M) :=
  if p1 = (M 73 1) then
    bd1 (f_X12_stands M) fun e_13 =>
    if e_13.1 = 0 then
      some e_13.2
    else
      if (e_13.2 73 3) = 0 then
        bd1 (lpf (fun a : Int32 × px_M => o_X12_goThrough_29 r_X12_goThrough a.2 a.1) (0, e_13.2)) fun e_29 =>
        o_X12_goThrough_55 r_X12_goThrough e_29
      else
        o_X12_goThrough_55 r_X12_goThrough e_13.2
  else
    bd1 (lpf (fun a : Int32 × px_M => o_X12_goThrough_68 r_X12_goThrough a.2 p1 p2 a.1) (0, M)) fun e_68 =>
    some e_68
theorem so_X12_goThrough {dr : Nat} {r_X12_goThrough : px_M → Int32 → Int32 → Option (px_M)} {d : Nat} {X : Nat × (Nat → Int32)} {sh : px_Sh} {M : px_M} {L : px_L} {R : px_R} {n : Nat} {p1 : Int32} {p2 : Int32} {e : px_M} (h_X12_goThrough : ∀ {d : Nat} {X : Nat × (Nat → Int32)} {sh : px_Sh} {M : px_M} {L : px_L} {R : px_R} {n : Nat} {p1 : Int32} {p2 : Int32} {e : px_M}, SR sh R → dr ≤ d → r_X12_goThrough M p1 p2 = some e → MX yX12_goThrough cX12_goThrough 4 none d 0 0 X [.ref 73, .int p1, .int p2] sh M L R n (px_pu none sh e L R n)) (hS : SR sh R) (hd : 2 ≤ d) (hdr : dr + 1 ≤ d) (h : o_X12_goThrough r_X12_goThrough M p1 p2 = some e) : MX yX12_goThrough cX12_goThrough 4 none d 0 0 X [.ref 73, .int p1, .int p2] sh M L R n (px_pu none sh e L R n) := by
  refine MX.of (by decide +kernel) (by exact Nat.le_of_ble_eq_true rfl) ?_
  have hcu : 0 ≤ 0 := Nat.zero_le _
  have hsu : 0 ≤ 0 := Nat.zero_le _
  have g : px_pu none sh e L R n none sh e L R n := ⟨rfl, rfl, rfl, rfl, rfl, rfl⟩
  unfold o_X12_goThrough at h
  refine wx_iload_n dX12_goThrough_0 rfl ?_
  refine wx_aload_n dX12_goThrough_1 rfl ?_
  refine wx_getI dX12_goThrough_2 fl_X12_182 (sc_73 hS) rfl ?_
  refine wx_icmp_ne (tgt := 66) dX12_goThrough_5 (by decide) (fun c_5 => ?_) (fun c_5 => ?_)
  · replace h := it_f h c_5
    refine wx_iconst (v := 0) dX12_goThrough_66 (by decide) ?_
    refine wx_istore_n (lv' := [(3, _), (0, _), (1, _), (2, _)]) dX12_goThrough_67 (by decide) rfl ?_
    obtain ⟨e_68, k_68, h⟩ := bd1_some h
    refine wx_sub (so_X12_goThrough_68 h_X12_goThrough hS hd hdr hcu hsu k_68 ?_) (px_s rfl (px_s rfl (px_s rfl (px_s rfl px_0))))
    refine wx_vret dX12_goThrough_113 hcu hsu ?_
    obtain rfl := Option.some.inj h
    exact g
  · replace h := it_t h c_5
    refine wx_aload_n dX12_goThrough_8 rfl ?_
    refine wx_aload_n dX12_goThrough_9 rfl ?_
    refine wx_getR dX12_goThrough_10 fl_X12_16 (sc_73 hS) rfl (rr_73_6 hS) ?_
    obtain ⟨e_13, k_13, h⟩ := bd1_some h
    refine wx_cVi dX12_goThrough_13 ml_X12_192 my_X12_stands iv_X12_stands (sc_73 hS) (by decide) (s_X12_stands (d := d - 1) hS (by omega) k_13) rfl (by omega) (by exact Nat.le_of_ble_eq_true rfl) hcu hsu ?_
    refine wx_if_ne (tgt := 20) dX12_goThrough_16 (by decide) (fun c_16 => ?_) (fun c_16 => ?_)
    · replace h := it_f h c_16
      refine wx_aload_n dX12_goThrough_20 rfl ?_
      refine wx_getI dX12_goThrough_21 fl_X12_196 (sc_73 hS) rfl ?_
      refine wx_if_ne (tgt := 55) dX12_goThrough_24 (by decide) (fun c_24 => ?_) (fun c_24 => ?_)
      · replace h := it_f h c_24
        exact wx_sub (so_X12_goThrough_55 h_X12_goThrough hS hd hdr hcu hsu h g) (px_s rfl px_0)
      · replace h := it_t h c_24
        refine wx_iconst (v := 0) dX12_goThrough_27 (by decide) ?_
        refine wx_istore_n (lv' := [(3, _), (0, _), (1, _), (2, _)]) dX12_goThrough_28 (by decide) rfl ?_
        obtain ⟨e_29, k_29, h⟩ := bd1_some h
        refine wx_sub (so_X12_goThrough_29 h_X12_goThrough hS hd hdr hcu hsu k_29 ?_) (px_s rfl (px_s rfl px_0))
        exact wx_sub (so_X12_goThrough_55 h_X12_goThrough hS hd hdr hcu hsu h g) (px_s rfl px_0)
    · replace h := it_t h c_16
      refine wx_vret dX12_goThrough_19 hcu hsu ?_
      obtain rfl := Option.some.inj h
      exact g
noncomputable def k_X12_goThrough : Nat → px_M → Int32 → Int32 → Option (px_M)
  | 0 => fun _ _ _ => none
  | k + 1 => fun M p1 p2 => o_X12_goThrough (k_X12_goThrough k) M p1 p2
theorem sk_X12_goThrough : ∀ (k : Nat) {d : Nat} {X : Nat × (Nat → Int32)} {sh : px_Sh} {M : px_M} {L : px_L} {R : px_R} {n : Nat} {p1 : Int32} {p2 : Int32} {e : px_M}, SR sh R → 2 + 1 * k ≤ d → k_X12_goThrough k M p1 p2 = some e → MX yX12_goThrough cX12_goThrough 4 none d 0 0 X [.ref 73, .int p1, .int p2] sh M L R n (px_pu none sh e L R n)
  | 0, _, _, _, _, _, _, _, _, _, _, _, _, h => by cases h
  | k + 1, d, X, sh, M, L, R, n, p1, p2, e, hS, hd, h => so_X12_goThrough (dr := 2 + 1 * k) (r_X12_goThrough := k_X12_goThrough k) (fun hS hd h => sk_X12_goThrough k hS hd h) hS (by omega) (by omega) h
noncomputable def f_X12_goThrough (M : px_M) (p1 : Int32) (p2 : Int32) : Option (px_M) := k_X12_goThrough 10 M p1 p2
theorem s_X12_goThrough {d : Nat} {X : Nat × (Nat → Int32)} {sh : px_Sh} {M : px_M} {L : px_L} {R : px_R} {n : Nat} {p1 : Int32} {p2 : Int32} {e : px_M} (hS : SR sh R) (hd : 12 ≤ d) (h : f_X12_goThrough M p1 p2 = some e) : MX yX12_goThrough cX12_goThrough 4 none d 0 0 X [.ref 73, .int p1, .int p2] sh M L R n (px_pu none sh e L R n) := sk_X12_goThrough 10 hS (by omega) h
noncomputable def f_X12_strip_74 (M : px_M) (x3 : Int32) : Option ((Int32 × px_M) ⊕ (px_M)) :=
  if 8 ≤ x3 then
    some (.inr M)
  else
    ok (ix x3 8) <|
    nm (px_u M 78 x3.toNatClampNeg 0) fun M_86 =>
    some (.inl ((x3 + 1), M_86))
theorem s_X12_strip_74b {x3 : Int32} {M : px_M} {L : px_L} {R : px_R} {e : ((Int32 × px_M) ⊕ (px_M))} (hS : SR sh R) (hd : 13 ≤ d) (hcu : cu ≤ mc) (hsu : su ≤ ms) (h : f_X12_strip_74 M x3 = some e) (g : (sE (fun a => WX RX12 cX12_strip 4 (some .int) ("strip", []) d mc ms X (px_QF Post mc ms) 74 [(0, .ref 73), (3, .int a.1)] [] sh (a.2) L R n cu su) (fun t => WX RX12 cX12_strip 4 (some .int) ("strip", []) d mc ms X (px_QF Post mc ms) 93 [(0, .ref 73)] [] sh t L R n cu su)) e) : WX RX12 cX12_strip 4 (some .int) ("strip", []) d mc ms X (px_QF Post mc ms) 74 [(0, .ref 73), (3, .int x3)] [] sh M L R n cu su := by
  unfold f_X12_strip_74 at h
  refine wx_iload_n dX12_strip_74 rfl ?_
  refine wx_bipush (v := 8) dX12_strip_75 (by decide) ?_
  refine wx_icmp_ge (tgt := 93) dX12_strip_77 (by decide) (fun c_77 => ?_) (fun c_77 => ?_)
  · replace h := it_t h c_77
    obtain rfl := Option.some.inj h
    replace g := sE_r g
    exact wx_sub g (px_s rfl px_0)
  · replace h := it_f h c_77
    refine wx_aload_n dX12_strip_80 rfl ?_
    refine wx_getR dX12_strip_81 fl_X12_22 (sc_73 hS) rfl (rr_73_8 hS) ?_
    refine wx_iload_n dX12_strip_84 rfl ?_
    refine wx_iconst (v := 0) dX12_strip_85 (by decide) ?_
    obtain ⟨w_86, h⟩ := ok_some h
    refine wx_bast dX12_strip_86 (sc_78 hS) (ix_in w_86) rfl ?_
    refine wx_namM (fun M_86 q_86 => ?_)
    replace h := nm_at h q_86
    refine wx_iinc (lv' := [(3, _), (0, _)]) dX12_strip_87 rfl (i_1 _) (by decide) rfl ?_
    refine wx_goto (tgt := 74) dX12_strip_90 (by decide) ?_
    obtain rfl := Option.some.inj h
    replace g := sE_l g
    exact wx_sub g (px_s rfl (px_s rfl px_0))
theorem s_X12_strip_74 {x3 : Int32} {M : px_M} {L : px_L} {R : px_R} {e : (px_M)} (hS : SR sh R) (hd : 13 ≤ d) (hcu : cu ≤ mc) (hsu : su ≤ ms) (h : lpf (fun a : Int32 × px_M => f_X12_strip_74 a.2 a.1) (x3, M) = some e) (g : WX RX12 cX12_strip 4 (some .int) ("strip", []) d mc ms X (px_QF Post mc ms) 93 [(0, .ref 73)] [] sh e L R n cu su) : WX RX12 cX12_strip 4 (some .int) ("strip", []) d mc ms X (px_QF Post mc ms) 74 [(0, .ref 73), (3, .int x3)] [] sh M L R n cu su := by
  have key := lpf_wp (P := (fun a => WX RX12 cX12_strip 4 (some .int) ("strip", []) d mc ms X (px_QF Post mc ms) 74 [(0, .ref 73), (3, .int a.1)] [] sh (a.2) L R n cu su)) (G := (fun t => WX RX12 cX12_strip 4 (some .int) ("strip", []) d mc ms X (px_QF Post mc ms) 93 [(0, .ref 73)] [] sh t L R n cu su)) (fun a r h g => s_X12_strip_74b (x3 := a.1) (M := a.2) (L := L) (R := R) hS hd hcu hsu h g) (a := (x3, M)) h g
  exact key
noncomputable def f_X12_strip_48 (M : px_M) (x1 : Int32) (x2 : Int32) (z0 : Int32) : Option (Int32 × px_M) :=
  bd1 (f_X12_bad M z0 1) fun e_49 =>
  if e_49.1 = 0 then
    nm (px_u e_49.2 73 1 x1) fun M_59 =>
    nm (px_u M_59 73 2 x2) fun M_64 =>
    nm (px_u M_64 73 3 0) fun M_69 =>
    bd1 (lpf (fun a : Int32 × px_M => f_X12_strip_74 a.2 a.1) (0, M_69)) fun e_74 =>
    bd1 (f_X12_goThrough e_74 0 0) fun e_96 =>
    some ((e_96 73 3), e_96)
  else
    some (0, e_49.2)
theorem s_X12_strip_48 {x1 : Int32} {x2 : Int32} {z0 : Int32} {M : px_M} {L : px_L} {R : px_R} {e : (Int32 × px_M)} (hS : SR sh R) (hd : 13 ≤ d) (hcu : cu ≤ mc) (hsu : su ≤ ms) (h : f_X12_strip_48 M x1 x2 z0 = some e) (g : Post (some (.int (e.1))) sh (e.2) L R n) : WX RX12 cX12_strip 4 (some .int) ("strip", []) d mc ms X (px_QF Post mc ms) 48 [(0, .ref 73), (1, .int x1), (2, .int x2)] [.int z0, .ref 73] sh M L R n cu su := by
  unfold f_X12_strip_48 at h
  refine wx_iconst (v := 1) dX12_strip_48 (by decide) ?_
  obtain ⟨e_49, k_49, h⟩ := bd1_some h
  refine wx_cVi dX12_strip_49 ml_X12_207 my_X12_bad iv_X12_bad (sc_73 hS) (by decide) (s_X12_bad (d := d - 1) hS (by omega) k_49) rfl (by omega) (by exact Nat.le_of_ble_eq_true rfl) hcu hsu ?_
  refine wx_if_eq (tgt := 57) dX12_strip_52 (by decide) (fun c_52 => ?_) (fun c_52 => ?_)
  · replace h := it_t h c_52
    refine wx_aload_n dX12_strip_57 rfl ?_
    refine wx_iload_n dX12_strip_58 rfl ?_
    refine wx_putI dX12_strip_59 fl_X12_182 (sc_73 hS) (Or.inl rfl) rfl ⟨rfl, rfl⟩ ?_
    refine wx_namM (fun M_59 q_59 => ?_)
    replace h := nm_at h q_59
    refine wx_aload_n dX12_strip_62 rfl ?_
    refine wx_iload_n dX12_strip_63 rfl ?_
    refine wx_putI dX12_strip_64 fl_X12_185 (sc_73 hS) (Or.inl rfl) rfl ⟨rfl, rfl⟩ ?_
    refine wx_namM (fun M_64 q_64 => ?_)
    replace h := nm_at h q_64
    refine wx_aload_n dX12_strip_67 rfl ?_
    refine wx_iconst (v := 0) dX12_strip_68 (by decide) ?_
    refine wx_putI dX12_strip_69 fl_X12_196 (sc_73 hS) (Or.inl rfl) rfl ⟨rfl, rfl⟩ ?_
    refine wx_namM (fun M_69 q_69 => ?_)
    replace h := nm_at h q_69
    refine wx_iconst (v := 0) dX12_strip_72 (by decide) ?_
    refine wx_istore_n (lv' := [(3, _), (0, _), (1, _), (2, _)]) dX12_strip_73 (by decide) rfl ?_
    obtain ⟨e_74, k_74, h⟩ := bd1_some h
    refine wx_sub (s_X12_strip_74 hS hd hcu hsu k_74 ?_) (px_s rfl (px_s rfl px_0))
    refine wx_aload_n dX12_strip_93 rfl ?_
    refine wx_iconst (v := 0) dX12_strip_94 (by decide) ?_
    refine wx_iconst (v := 0) dX12_strip_95 (by decide) ?_
    obtain ⟨e_96, k_96, h⟩ := bd1_some h
    refine wx_cVv dX12_strip_96 ml_X12_199 my_X12_goThrough iv_X12_goThrough (sc_73 hS) (by decide) (s_X12_goThrough (d := d - 1) hS (by omega) k_96) rfl (by omega) (by exact Nat.le_of_ble_eq_true rfl) hcu hsu ?_
    refine wx_aload_n dX12_strip_99 rfl ?_
    refine wx_getI dX12_strip_100 fl_X12_196 (sc_73 hS) rfl ?_
    refine wx_iret dX12_strip_103 hcu hsu ?_
    obtain rfl := Option.some.inj h
    exact g
  · replace h := it_f h c_52
    refine wx_iconst (v := 0) dX12_strip_55 (by decide) ?_
    refine wx_iret dX12_strip_56 hcu hsu ?_
    obtain rfl := Option.some.inj h
    exact g
noncomputable def f_X12_strip_43 (M : px_M) (x1 : Int32) (x2 : Int32) : Option (Int32 × px_M) :=
  f_X12_strip_48 M x1 x2 1
theorem s_X12_strip_43 {x1 : Int32} {x2 : Int32} {M : px_M} {L : px_L} {R : px_R} {e : (Int32 × px_M)} (hS : SR sh R) (hd : 13 ≤ d) (hcu : cu ≤ mc) (hsu : su ≤ ms) (h : f_X12_strip_43 M x1 x2 = some e) (g : Post (some (.int (e.1))) sh (e.2) L R n) : WX RX12 cX12_strip 4 (some .int) ("strip", []) d mc ms X (px_QF Post mc ms) 43 [(0, .ref 73), (1, .int x1), (2, .int x2)] [.ref 73] sh M L R n cu su := by
  unfold f_X12_strip_43 at h
  refine wx_iconst (v := 1) dX12_strip_43 (by decide) ?_
  refine wx_goto (tgt := 48) dX12_strip_44 (by decide) ?_
  exact wx_sub (s_X12_strip_48 hS hd hcu hsu h g) (px_s rfl (px_s rfl (px_s rfl px_0)))
noncomputable def f_X12_strip_39 (M : px_M) (x1 : Int32) (x2 : Int32) (z0 : Int32) (z1 : Int32) (z2 : Int32) : Option (Int32 × px_M) :=
  if z2 < (z1 <<< (z0 &&& 31)) then
    f_X12_strip_48 M x1 x2 0
  else
    f_X12_strip_43 M x1 x2
theorem s_X12_strip_39 {x1 : Int32} {x2 : Int32} {z0 : Int32} {z1 : Int32} {z2 : Int32} {M : px_M} {L : px_L} {R : px_R} {e : (Int32 × px_M)} (hS : SR sh R) (hd : 13 ≤ d) (hcu : cu ≤ mc) (hsu : su ≤ ms) (h : f_X12_strip_39 M x1 x2 z0 z1 z2 = some e) (g : Post (some (.int (e.1))) sh (e.2) L R n) : WX RX12 cX12_strip 4 (some .int) ("strip", []) d mc ms X (px_QF Post mc ms) 39 [(0, .ref 73), (1, .int x1), (2, .int x2)] [.int z0, .int z1, .int z2, .ref 73] sh M L R n cu su := by
  unfold f_X12_strip_39 at h
  refine wx_ishl dX12_strip_39 ?_
  refine wx_icmp_lt (tgt := 47) dX12_strip_40 (by decide) (fun c_40 => ?_) (fun c_40 => ?_)
  · replace h := it_t h c_40
    refine wx_iconst (v := 0) dX12_strip_47 (by decide) ?_
    exact wx_sub (s_X12_strip_48 hS hd hcu hsu h g) (px_s rfl (px_s rfl (px_s rfl px_0)))
  · replace h := it_f h c_40
    exact wx_sub (s_X12_strip_43 hS hd hcu hsu h g) (px_s rfl (px_s rfl (px_s rfl px_0)))
noncomputable def f_X12_strip (M : px_M) (p1 : Int32) (p2 : Int32) : Option (Int32 × px_M) :=
  nm (px_u M 73 0 0) fun M_2 =>
  bd1 (f_X12_in p1 2 8) fun e_10 =>
  if e_10 = 0 then
    f_X12_strip_43 M_2 p1 p2
  else
    if p2 < 0 then
      f_X12_strip_43 M_2 p1 p2
    else
      bd1 (f_X12_in p1 2 8) fun e_26 =>
      if e_26 = 0 then
        f_X12_strip_39 M_2 p1 p2 0 1 p2
      else
        f_X12_strip_39 M_2 p1 p2 (p1 - 1) 1 p2
theorem s_X12_strip {d : Nat} {X : Nat × (Nat → Int32)} {sh : px_Sh} {M : px_M} {L : px_L} {R : px_R} {n : Nat} {p1 : Int32} {p2 : Int32} {e : Int32 × px_M} (hS : SR sh R) (hd : 13 ≤ d) (h : f_X12_strip M p1 p2 = some e) : MX yX12_strip cX12_strip 4 (some .int) d 0 0 X [.ref 73, .int p1, .int p2] sh M L R n (px_pu (some (.int e.1)) sh e.2 L R n) := by
  refine MX.of (by decide +kernel) (by exact Nat.le_of_ble_eq_true rfl) ?_
  have hcu : 0 ≤ 0 := Nat.zero_le _
  have hsu : 0 ≤ 0 := Nat.zero_le _
  have g : px_pu (some (.int e.1)) sh e.2 L R n (some (.int e.1)) sh e.2 L R n := ⟨rfl, rfl, rfl, rfl, rfl, rfl⟩
  unfold f_X12_strip at h
  refine wx_aload_n dX12_strip_0 rfl ?_
  refine wx_iconst (v := 0) dX12_strip_1 (by decide) ?_
  refine wx_putI dX12_strip_2 fl_X12_179 (sc_73 hS) (Or.inl rfl) rfl ⟨rfl, rfl⟩ ?_
  refine wx_namM (fun M_2 q_2 => ?_)
  replace h := nm_at h q_2
  refine wx_aload_n dX12_strip_5 rfl ?_
  refine wx_iload_n dX12_strip_6 rfl ?_
  refine wx_iconst (v := 2) dX12_strip_7 (by decide) ?_
  refine wx_bipush (v := 8) dX12_strip_8 (by decide) ?_
  obtain ⟨e_10, k_10, h⟩ := bd1_some h
  refine wx_cSi dX12_strip_10 ml_X12_203 my_X12_in sv_X12_in (s_X12_in (d := d - 1) hS (by omega) k_10) rfl (by omega) (by exact Nat.le_of_ble_eq_true rfl) hcu hsu ?_
  refine wx_if_eq (tgt := 43) dX12_strip_13 (by decide) (fun c_13 => ?_) (fun c_13 => ?_)
  · replace h := it_t h c_13
    exact wx_sub (s_X12_strip_43 hS hd hcu hsu h g) (px_s rfl (px_s rfl (px_s rfl px_0)))
  · replace h := it_f h c_13
    refine wx_iload_n dX12_strip_16 rfl ?_
    refine wx_if_lt (tgt := 43) dX12_strip_17 (by decide) (fun c_17 => ?_) (fun c_17 => ?_)
    · replace h := it_t h c_17
      exact wx_sub (s_X12_strip_43 hS hd hcu hsu h g) (px_s rfl (px_s rfl (px_s rfl px_0)))
    · replace h := it_f h c_17
      refine wx_iload_n dX12_strip_20 rfl ?_
      refine wx_iconst (v := 1) dX12_strip_21 (by decide) ?_
      refine wx_iload_n dX12_strip_22 rfl ?_
      refine wx_iconst (v := 2) dX12_strip_23 (by decide) ?_
      refine wx_bipush (v := 8) dX12_strip_24 (by decide) ?_
      obtain ⟨e_26, k_26, h⟩ := bd1_some h
      refine wx_cSi dX12_strip_26 ml_X12_203 my_X12_in sv_X12_in (s_X12_in (d := d - 1) hS (by omega) k_26) rfl (by omega) (by exact Nat.le_of_ble_eq_true rfl) hcu hsu ?_
      refine wx_if_eq (tgt := 38) dX12_strip_29 (by decide) (fun c_29 => ?_) (fun c_29 => ?_)
      · replace h := it_t h c_29
        refine wx_iconst (v := 0) dX12_strip_38 (by decide) ?_
        exact wx_sub (s_X12_strip_39 hS hd hcu hsu h g) (px_s rfl (px_s rfl (px_s rfl px_0)))
      · replace h := it_f h c_29
        refine wx_iload_n dX12_strip_32 rfl ?_
        refine wx_iconst (v := 1) dX12_strip_33 (by decide) ?_
        refine wx_isub dX12_strip_34 ?_
        refine wx_goto (tgt := 39) dX12_strip_35 (by decide) ?_
        exact wx_sub (s_X12_strip_39 hS hd hcu hsu h g) (px_s rfl (px_s rfl (px_s rfl px_0)))
noncomputable def f_X12_layer_36 (M : px_M) (z0 : Int32) : Option (Int32 × px_M) :=
  some (z0, M)
theorem s_X12_layer_36 {z0 : Int32} {M : px_M} {L : px_L} {R : px_R} {e : (Int32 × px_M)} (hS : SR sh R) (hd : 1 ≤ d) (hcu : cu ≤ mc) (hsu : su ≤ ms) (h : f_X12_layer_36 M z0 = some e) (g : Post (some (.int (e.1))) sh (e.2) L R n) : WX RX12 cX12_layer 2 (some .int) ("layer", []) d mc ms X (px_QF Post mc ms) 36 [] [.int z0] sh M L R n cu su := by
  unfold f_X12_layer_36 at h
  refine wx_iret dX12_layer_36 hcu hsu ?_
  obtain rfl := Option.some.inj h
  exact g
noncomputable def f_X12_layer_35 (M : px_M) : Option (Int32 × px_M) :=
  f_X12_layer_36 M (-1)
theorem s_X12_layer_35 {M : px_M} {L : px_L} {R : px_R} {e : (Int32 × px_M)} (hS : SR sh R) (hd : 1 ≤ d) (hcu : cu ≤ mc) (hsu : su ≤ ms) (h : f_X12_layer_35 M = some e) (g : Post (some (.int (e.1))) sh (e.2) L R n) : WX RX12 cX12_layer 2 (some .int) ("layer", []) d mc ms X (px_QF Post mc ms) 35 [] [] sh M L R n cu su := by
  unfold f_X12_layer_35 at h
  refine wx_iconst (v := (-1)) dX12_layer_35 (by decide) ?_
  exact wx_sub (s_X12_layer_36 hS hd hcu hsu h g) px_0
noncomputable def f_X12_layer (M : px_M) (p1 : Int32) : Option (Int32 × px_M) :=
  nm (px_u M 73 0 0) fun M_2 =>
  if (M_2 73 3) ≤ 0 then
    f_X12_layer_35 M_2
  else
    bd1 (f_X12_in p1 0 ((M_2 73 1) - 1)) fun e_20 =>
    if e_20 = 0 then
      f_X12_layer_35 M_2
    else
      ok (ix p1 8) <|
      f_X12_layer_36 M_2 (M_2 74 p1.toNatClampNeg)
theorem s_X12_layer {d : Nat} {X : Nat × (Nat → Int32)} {sh : px_Sh} {M : px_M} {L : px_L} {R : px_R} {n : Nat} {p1 : Int32} {e : Int32 × px_M} (hS : SR sh R) (hd : 1 ≤ d) (h : f_X12_layer M p1 = some e) : MX yX12_layer cX12_layer 2 (some .int) d 0 0 X [.ref 73, .int p1] sh M L R n (px_pu (some (.int e.1)) sh e.2 L R n) := by
  refine MX.of (by decide +kernel) (by exact Nat.le_of_ble_eq_true rfl) ?_
  have hcu : 0 ≤ 0 := Nat.zero_le _
  have hsu : 0 ≤ 0 := Nat.zero_le _
  have g : px_pu (some (.int e.1)) sh e.2 L R n (some (.int e.1)) sh e.2 L R n := ⟨rfl, rfl, rfl, rfl, rfl, rfl⟩
  unfold f_X12_layer at h
  refine wx_aload_n dX12_layer_0 rfl ?_
  refine wx_iconst (v := 0) dX12_layer_1 (by decide) ?_
  refine wx_putI dX12_layer_2 fl_X12_179 (sc_73 hS) (Or.inl rfl) rfl ⟨rfl, rfl⟩ ?_
  refine wx_namM (fun M_2 q_2 => ?_)
  replace h := nm_at h q_2
  refine wx_aload_n dX12_layer_5 rfl ?_
  refine wx_getI dX12_layer_6 fl_X12_196 (sc_73 hS) rfl ?_
  refine wx_if_le (tgt := 35) dX12_layer_9 (by decide) (fun c_9 => ?_) (fun c_9 => ?_)
  · replace h := it_t h c_9
    exact wx_sub (s_X12_layer_35 hS hd hcu hsu h g) px_0
  · replace h := it_f h c_9
    refine wx_iload_n dX12_layer_12 rfl ?_
    refine wx_iconst (v := 0) dX12_layer_13 (by decide) ?_
    refine wx_aload_n dX12_layer_14 rfl ?_
    refine wx_getI dX12_layer_15 fl_X12_182 (sc_73 hS) rfl ?_
    refine wx_iconst (v := 1) dX12_layer_18 (by decide) ?_
    refine wx_isub dX12_layer_19 ?_
    obtain ⟨e_20, k_20, h⟩ := bd1_some h
    refine wx_cSi dX12_layer_20 ml_X12_203 my_X12_in sv_X12_in (s_X12_in (d := d - 1) hS (by omega) k_20) rfl (by omega) (by exact Nat.le_of_ble_eq_true rfl) hcu hsu ?_
    refine wx_if_eq (tgt := 35) dX12_layer_23 (by decide) (fun c_23 => ?_) (fun c_23 => ?_)
    · replace h := it_t h c_23
      exact wx_sub (s_X12_layer_35 hS hd hcu hsu h g) px_0
    · replace h := it_f h c_23
      refine wx_aload_n dX12_layer_26 rfl ?_
      refine wx_getR dX12_layer_27 fl_X12_7 (sc_73 hS) rfl (rr_73_4 hS) ?_
      refine wx_iload_n dX12_layer_30 rfl ?_
      obtain ⟨w_31, h⟩ := ok_some h
      refine wx_iald dX12_layer_31 (sc_74 hS) (ix_in w_31) ?_
      refine wx_goto (tgt := 36) dX12_layer_32 (by decide) ?_
      exact wx_sub (s_X12_layer_36 hS hd hcu hsu h g) px_0
noncomputable def f_X12_lies_60 (M : px_M) (x1 : Int32) (x2 : Int32) (x3 : Int32) : Option ((Int32 × Int32 × px_M) ⊕ (Int32 × px_M)) :=
  if (M 73 1) ≤ x3 then
    some (.inr (x2, M))
  else
    nm ((x1 >>> ((3 * x3) &&& 31)) &&& 7) fun v_81 =>
    ok (ix x3 8) <|
    nm (px_u M 76 x3.toNatClampNeg v_81) fun M_81 =>
    ok (ix x3 8) <|
    nm (x2 ||| (1 <<< ((M_81 76 x3.toNatClampNeg) &&& 31))) fun v_92 =>
    some (.inl (v_92, (x3 + 1), M_81))
theorem s_X12_lies_60b {x1 : Int32} {x2 : Int32} {x3 : Int32} {M : px_M} {L : px_L} {R : px_R} {e : ((Int32 × Int32 × px_M) ⊕ (Int32 × px_M))} (hS : SR sh R) (hd : 2 ≤ d) (hcu : cu ≤ mc) (hsu : su ≤ ms) (h : f_X12_lies_60 M x1 x2 x3 = some e) (g : (sE (fun a => WX RX12 cX12_lies 4 (some .boolean) ("lies", []) d mc ms X (px_QF Post mc ms) 60 [(0, .ref 73), (1, .int x1), (2, .int a.1), (3, .int a.2.1)] [] sh (a.2.2) L R n cu su) (fun t => WX RX12 cX12_lies 4 (some .boolean) ("lies", []) d mc ms X (px_QF Post mc ms) 99 [(0, .ref 73), (2, .int t.1)] [] sh (t.2) L R n cu su)) e) : WX RX12 cX12_lies 4 (some .boolean) ("lies", []) d mc ms X (px_QF Post mc ms) 60 [(0, .ref 73), (1, .int x1), (2, .int x2), (3, .int x3)] [] sh M L R n cu su := by
  unfold f_X12_lies_60 at h
  refine wx_iload_n dX12_lies_60 rfl ?_
  refine wx_aload_n dX12_lies_61 rfl ?_
  refine wx_getI dX12_lies_62 fl_X12_182 (sc_73 hS) rfl ?_
  refine wx_icmp_ge (tgt := 99) dX12_lies_65 (by decide) (fun c_65 => ?_) (fun c_65 => ?_)
  · replace h := it_t h c_65
    obtain rfl := Option.some.inj h
    replace g := sE_r g
    exact wx_sub g (px_s rfl (px_s rfl px_0))
  · replace h := it_f h c_65
    refine wx_aload_n dX12_lies_68 rfl ?_
    refine wx_getR dX12_lies_69 fl_X12_16 (sc_73 hS) rfl (rr_73_6 hS) ?_
    refine wx_iload_n dX12_lies_72 rfl ?_
    refine wx_iload_n dX12_lies_73 rfl ?_
    refine wx_iconst (v := 3) dX12_lies_74 (by decide) ?_
    refine wx_iload_n dX12_lies_75 rfl ?_
    refine wx_imul dX12_lies_76 ?_
    refine wx_ishr dX12_lies_77 ?_
    refine wx_bipush (v := 7) dX12_lies_78 (by decide) ?_
    refine wx_iand dX12_lies_80 ?_
    refine wx_nami (fun v_81 q_81 => ?_)
    replace h := nm_at h q_81
    obtain ⟨w_81, h⟩ := ok_some h
    refine wx_iast dX12_lies_81 (sc_76 hS) (ix_in w_81) ?_
    refine wx_namM (fun M_81 q_81 => ?_)
    replace h := nm_at h q_81
    refine wx_iload_n dX12_lies_82 rfl ?_
    refine wx_iconst (v := 1) dX12_lies_83 (by decide) ?_
    refine wx_aload_n dX12_lies_84 rfl ?_
    refine wx_getR dX12_lies_85 fl_X12_16 (sc_73 hS) rfl (rr_73_6 hS) ?_
    refine wx_iload_n dX12_lies_88 rfl ?_
    obtain ⟨w_89, h⟩ := ok_some h
    refine wx_iald dX12_lies_89 (sc_76 hS) (ix_in w_89) ?_
    refine wx_ishl dX12_lies_90 ?_
    refine wx_ior dX12_lies_91 ?_
    refine wx_nami (fun v_92 q_92 => ?_)
    replace h := nm_at h q_92
    refine wx_istore_n (lv' := [(2, _), (0, _), (1, _), (3, _)]) dX12_lies_92 (by decide) rfl ?_
    refine wx_iinc (lv' := [(3, _), (2, _), (0, _), (1, _)]) dX12_lies_93 rfl (i_1 _) (by decide) rfl ?_
    refine wx_goto (tgt := 60) dX12_lies_96 (by decide) ?_
    obtain rfl := Option.some.inj h
    replace g := sE_l g
    exact wx_sub g (px_s rfl (px_s rfl (px_s rfl (px_s rfl px_0))))
theorem s_X12_lies_60 {x1 : Int32} {x2 : Int32} {x3 : Int32} {M : px_M} {L : px_L} {R : px_R} {e : (Int32 × px_M)} (hS : SR sh R) (hd : 2 ≤ d) (hcu : cu ≤ mc) (hsu : su ≤ ms) (h : lpf (fun a : Int32 × Int32 × px_M => f_X12_lies_60 a.2.2 x1 a.1 a.2.1) (x2, x3, M) = some e) (g : WX RX12 cX12_lies 4 (some .boolean) ("lies", []) d mc ms X (px_QF Post mc ms) 99 [(0, .ref 73), (2, .int e.1)] [] sh (e.2) L R n cu su) : WX RX12 cX12_lies 4 (some .boolean) ("lies", []) d mc ms X (px_QF Post mc ms) 60 [(0, .ref 73), (1, .int x1), (2, .int x2), (3, .int x3)] [] sh M L R n cu su := by
  have key := lpf_wp (P := (fun a => WX RX12 cX12_lies 4 (some .boolean) ("lies", []) d mc ms X (px_QF Post mc ms) 60 [(0, .ref 73), (1, .int x1), (2, .int a.1), (3, .int a.2.1)] [] sh (a.2.2) L R n cu su)) (G := (fun t => WX RX12 cX12_lies 4 (some .boolean) ("lies", []) d mc ms X (px_QF Post mc ms) 99 [(0, .ref 73), (2, .int t.1)] [] sh (t.2) L R n cu su)) (fun a r h g => s_X12_lies_60b (x1 := x1) (x2 := a.1) (x3 := a.2.1) (M := a.2.2) (L := L) (R := R) hS hd hcu hsu h g) (a := (x2, x3, M)) h g
  exact key
noncomputable def f_X12_lies_117 (M : px_M) (z0 : Int32) : Option (Int32 × px_M) :=
  bd1 (f_X12_bad M z0 2) fun e_118 =>
  if e_118.1 = 0 then
    bd1 (f_X12_stands e_118.2) fun e_131 =>
    ok (zb e_131.1) <|
    some (e_131.1, e_131.2)
  else
    some (0, e_118.2)
theorem s_X12_lies_117 {z0 : Int32} {M : px_M} {L : px_L} {R : px_R} {e : (Int32 × px_M)} (hS : SR sh R) (hd : 2 ≤ d) (hcu : cu ≤ mc) (hsu : su ≤ ms) (h : f_X12_lies_117 M z0 = some e) (g : Post (some (.int (e.1))) sh (e.2) L R n) : WX RX12 cX12_lies 4 (some .boolean) ("lies", []) d mc ms X (px_QF Post mc ms) 117 [(0, .ref 73)] [.int z0, .ref 73] sh M L R n cu su := by
  unfold f_X12_lies_117 at h
  refine wx_iconst (v := 2) dX12_lies_117 (by decide) ?_
  obtain ⟨e_118, k_118, h⟩ := bd1_some h
  refine wx_cVi dX12_lies_118 ml_X12_207 my_X12_bad iv_X12_bad (sc_73 hS) (by decide) (s_X12_bad (d := d - 1) hS (by omega) k_118) rfl (by omega) (by exact Nat.le_of_ble_eq_true rfl) hcu hsu ?_
  refine wx_if_eq (tgt := 126) dX12_lies_121 (by decide) (fun c_121 => ?_) (fun c_121 => ?_)
  · replace h := it_t h c_121
    refine wx_aload_n dX12_lies_126 rfl ?_
    refine wx_aload_n dX12_lies_127 rfl ?_
    refine wx_getR dX12_lies_128 fl_X12_16 (sc_73 hS) rfl (rr_73_6 hS) ?_
    obtain ⟨e_131, k_131, h⟩ := bd1_some h
    refine wx_cVi dX12_lies_131 ml_X12_192 my_X12_stands iv_X12_stands (sc_73 hS) (by decide) (s_X12_stands (d := d - 1) hS (by omega) k_131) rfl (by omega) (by exact Nat.le_of_ble_eq_true rfl) hcu hsu ?_
    obtain ⟨w_134, h⟩ := ok_some h
    refine wx_zret dX12_lies_134 (zb_n w_134) hcu hsu ?_
    obtain rfl := Option.some.inj h
    exact g
  · replace h := it_f h c_121
    refine wx_iconst (v := 0) dX12_lies_124 (by decide) ?_
    refine wx_zret dX12_lies_125 rfl hcu hsu ?_
    obtain rfl := Option.some.inj h
    exact g
noncomputable def f_X12_lies_54 (M : px_M) : Option (Int32 × px_M) :=
  some (0, M)
theorem s_X12_lies_54 {M : px_M} {L : px_L} {R : px_R} {e : (Int32 × px_M)} (hS : SR sh R) (hd : 2 ≤ d) (hcu : cu ≤ mc) (hsu : su ≤ ms) (h : f_X12_lies_54 M = some e) (g : Post (some (.int (e.1))) sh (e.2) L R n) : WX RX12 cX12_lies 4 (some .boolean) ("lies", []) d mc ms X (px_QF Post mc ms) 54 [] [] sh M L R n cu su := by
  unfold f_X12_lies_54 at h
  refine wx_iconst (v := 0) dX12_lies_54 (by decide) ?_
  refine wx_zret dX12_lies_55 rfl hcu hsu ?_
  obtain rfl := Option.some.inj h
  exact g
noncomputable def f_X12_lies_47 (M : px_M) (x1 : Int32) (z0 : Int32) : Option (Int32 × px_M) :=
  bd1 (f_X12_bad M z0 2) fun e_48 =>
  if e_48.1 = 0 then
    bd1 (lpf (fun a : Int32 × Int32 × px_M => f_X12_lies_60 a.2.2 x1 a.1 a.2.1) (0, 0, e_48.2)) fun e_60 =>
    if e_60.1 = ((1 <<< ((e_60.2 73 1) &&& 31)) - 1) then
      f_X12_lies_117 e_60.2 0
    else
      f_X12_lies_117 e_60.2 1
  else
    f_X12_lies_54 e_48.2
theorem s_X12_lies_47 {x1 : Int32} {z0 : Int32} {M : px_M} {L : px_L} {R : px_R} {e : (Int32 × px_M)} (hS : SR sh R) (hd : 2 ≤ d) (hcu : cu ≤ mc) (hsu : su ≤ ms) (h : f_X12_lies_47 M x1 z0 = some e) (g : Post (some (.int (e.1))) sh (e.2) L R n) : WX RX12 cX12_lies 4 (some .boolean) ("lies", []) d mc ms X (px_QF Post mc ms) 47 [(0, .ref 73), (1, .int x1)] [.int z0, .ref 73] sh M L R n cu su := by
  unfold f_X12_lies_47 at h
  refine wx_iconst (v := 2) dX12_lies_47 (by decide) ?_
  obtain ⟨e_48, k_48, h⟩ := bd1_some h
  refine wx_cVi dX12_lies_48 ml_X12_207 my_X12_bad iv_X12_bad (sc_73 hS) (by decide) (s_X12_bad (d := d - 1) hS (by omega) k_48) rfl (by omega) (by exact Nat.le_of_ble_eq_true rfl) hcu hsu ?_
  refine wx_if_eq (tgt := 56) dX12_lies_51 (by decide) (fun c_51 => ?_) (fun c_51 => ?_)
  · replace h := it_t h c_51
    refine wx_iconst (v := 0) dX12_lies_56 (by decide) ?_
    refine wx_istore_n (lv' := [(2, _), (0, _), (1, _)]) dX12_lies_57 (by decide) rfl ?_
    refine wx_iconst (v := 0) dX12_lies_58 (by decide) ?_
    refine wx_istore_n (lv' := [(3, _), (2, _), (0, _), (1, _)]) dX12_lies_59 (by decide) rfl ?_
    obtain ⟨e_60, k_60, h⟩ := bd1_some h
    refine wx_sub (s_X12_lies_60 hS hd hcu hsu k_60 ?_) (px_s rfl (px_s rfl (px_s rfl (px_s rfl px_0))))
    refine wx_aload_n dX12_lies_99 rfl ?_
    refine wx_iload_n dX12_lies_100 rfl ?_
    refine wx_iconst (v := 1) dX12_lies_101 (by decide) ?_
    refine wx_aload_n dX12_lies_102 rfl ?_
    refine wx_getI dX12_lies_103 fl_X12_182 (sc_73 hS) rfl ?_
    refine wx_ishl dX12_lies_106 ?_
    refine wx_iconst (v := 1) dX12_lies_107 (by decide) ?_
    refine wx_isub dX12_lies_108 ?_
    refine wx_icmp_eq (tgt := 116) dX12_lies_109 (by decide) (fun c_109 => ?_) (fun c_109 => ?_)
    · replace h := it_t h c_109
      refine wx_iconst (v := 0) dX12_lies_116 (by decide) ?_
      exact wx_sub (s_X12_lies_117 hS hd hcu hsu h g) (px_s rfl px_0)
    · replace h := it_f h c_109
      refine wx_iconst (v := 1) dX12_lies_112 (by decide) ?_
      refine wx_goto (tgt := 117) dX12_lies_113 (by decide) ?_
      exact wx_sub (s_X12_lies_117 hS hd hcu hsu h g) (px_s rfl px_0)
  · replace h := it_f h c_51
    exact wx_sub (s_X12_lies_54 hS hd hcu hsu h g) px_0
noncomputable def f_X12_lies_42 (M : px_M) (x1 : Int32) : Option (Int32 × px_M) :=
  f_X12_lies_47 M x1 1
theorem s_X12_lies_42 {x1 : Int32} {M : px_M} {L : px_L} {R : px_R} {e : (Int32 × px_M)} (hS : SR sh R) (hd : 2 ≤ d) (hcu : cu ≤ mc) (hsu : su ≤ ms) (h : f_X12_lies_42 M x1 = some e) (g : Post (some (.int (e.1))) sh (e.2) L R n) : WX RX12 cX12_lies 4 (some .boolean) ("lies", []) d mc ms X (px_QF Post mc ms) 42 [(0, .ref 73), (1, .int x1)] [.ref 73] sh M L R n cu su := by
  unfold f_X12_lies_42 at h
  refine wx_iconst (v := 1) dX12_lies_42 (by decide) ?_
  refine wx_goto (tgt := 47) dX12_lies_43 (by decide) ?_
  exact wx_sub (s_X12_lies_47 hS hd hcu hsu h g) (px_s rfl (px_s rfl px_0))
noncomputable def f_X12_lies_18 (M : px_M) (x1 : Int32) (z0 : Int32) : Option (Int32 × px_M) :=
  bd1 (f_X12_bad M z0 1) fun e_19 =>
  if e_19.1 = 0 then
    if x1 < 0 then
      f_X12_lies_42 e_19.2 x1
    else
      if x1 < (1 <<< ((3 * (e_19.2 73 1)) &&& 31)) then
        f_X12_lies_47 e_19.2 x1 0
      else
        f_X12_lies_42 e_19.2 x1
  else
    f_X12_lies_54 e_19.2
theorem s_X12_lies_18 {x1 : Int32} {z0 : Int32} {M : px_M} {L : px_L} {R : px_R} {e : (Int32 × px_M)} (hS : SR sh R) (hd : 2 ≤ d) (hcu : cu ≤ mc) (hsu : su ≤ ms) (h : f_X12_lies_18 M x1 z0 = some e) (g : Post (some (.int (e.1))) sh (e.2) L R n) : WX RX12 cX12_lies 4 (some .boolean) ("lies", []) d mc ms X (px_QF Post mc ms) 18 [(0, .ref 73), (1, .int x1)] [.int z0, .ref 73] sh M L R n cu su := by
  unfold f_X12_lies_18 at h
  refine wx_iconst (v := 1) dX12_lies_18 (by decide) ?_
  obtain ⟨e_19, k_19, h⟩ := bd1_some h
  refine wx_cVi dX12_lies_19 ml_X12_207 my_X12_bad iv_X12_bad (sc_73 hS) (by decide) (s_X12_bad (d := d - 1) hS (by omega) k_19) rfl (by omega) (by exact Nat.le_of_ble_eq_true rfl) hcu hsu ?_
  refine wx_if_ne (tgt := 54) dX12_lies_22 (by decide) (fun c_22 => ?_) (fun c_22 => ?_)
  · replace h := it_f h c_22
    exact wx_sub (s_X12_lies_54 hS hd hcu hsu h g) px_0
  · replace h := it_t h c_22
    refine wx_aload_n dX12_lies_25 rfl ?_
    refine wx_iload_n dX12_lies_26 rfl ?_
    refine wx_if_lt (tgt := 42) dX12_lies_27 (by decide) (fun c_27 => ?_) (fun c_27 => ?_)
    · replace h := it_t h c_27
      exact wx_sub (s_X12_lies_42 hS hd hcu hsu h g) (px_s rfl (px_s rfl px_0))
    · replace h := it_f h c_27
      refine wx_iload_n dX12_lies_30 rfl ?_
      refine wx_iconst (v := 1) dX12_lies_31 (by decide) ?_
      refine wx_iconst (v := 3) dX12_lies_32 (by decide) ?_
      refine wx_aload_n dX12_lies_33 rfl ?_
      refine wx_getI dX12_lies_34 fl_X12_182 (sc_73 hS) rfl ?_
      refine wx_imul dX12_lies_37 ?_
      refine wx_ishl dX12_lies_38 ?_
      refine wx_icmp_lt (tgt := 46) dX12_lies_39 (by decide) (fun c_39 => ?_) (fun c_39 => ?_)
      · replace h := it_t h c_39
        refine wx_iconst (v := 0) dX12_lies_46 (by decide) ?_
        exact wx_sub (s_X12_lies_47 hS hd hcu hsu h g) (px_s rfl (px_s rfl px_0))
      · replace h := it_f h c_39
        exact wx_sub (s_X12_lies_42 hS hd hcu hsu h g) (px_s rfl (px_s rfl px_0))
noncomputable def f_X12_lies (M : px_M) (p1 : Int32) : Option (Int32 × px_M) :=
  nm (px_u M 73 0 0) fun M_2 =>
  if (M_2 73 1) = 0 then
    f_X12_lies_18 M_2 p1 1
  else
    f_X12_lies_18 M_2 p1 0
theorem s_X12_lies {d : Nat} {X : Nat × (Nat → Int32)} {sh : px_Sh} {M : px_M} {L : px_L} {R : px_R} {n : Nat} {p1 : Int32} {e : Int32 × px_M} (hS : SR sh R) (hd : 2 ≤ d) (h : f_X12_lies M p1 = some e) : MX yX12_lies cX12_lies 4 (some .boolean) d 0 0 X [.ref 73, .int p1] sh M L R n (px_pu (some (.int e.1)) sh e.2 L R n) := by
  refine MX.of (by decide +kernel) (by exact Nat.le_of_ble_eq_true rfl) ?_
  have hcu : 0 ≤ 0 := Nat.zero_le _
  have hsu : 0 ≤ 0 := Nat.zero_le _
  have g : px_pu (some (.int e.1)) sh e.2 L R n (some (.int e.1)) sh e.2 L R n := ⟨rfl, rfl, rfl, rfl, rfl, rfl⟩
  unfold f_X12_lies at h
  refine wx_aload_n dX12_lies_0 rfl ?_
  refine wx_iconst (v := 0) dX12_lies_1 (by decide) ?_
  refine wx_putI dX12_lies_2 fl_X12_179 (sc_73 hS) (Or.inl rfl) rfl ⟨rfl, rfl⟩ ?_
  refine wx_namM (fun M_2 q_2 => ?_)
  replace h := nm_at h q_2
  refine wx_aload_n dX12_lies_5 rfl ?_
  refine wx_aload_n dX12_lies_6 rfl ?_
  refine wx_getI dX12_lies_7 fl_X12_182 (sc_73 hS) rfl ?_
  refine wx_if_ne (tgt := 17) dX12_lies_10 (by decide) (fun c_10 => ?_) (fun c_10 => ?_)
  · replace h := it_f h c_10
    refine wx_iconst (v := 0) dX12_lies_17 (by decide) ?_
    exact wx_sub (s_X12_lies_18 hS hd hcu hsu h g) (px_s rfl (px_s rfl px_0))
  · replace h := it_t h c_10
    refine wx_iconst (v := 1) dX12_lies_13 (by decide) ?_
    refine wx_goto (tgt := 18) dX12_lies_14 (by decide) ?_
    exact wx_sub (s_X12_lies_18 hS hd hcu hsu h g) (px_s rfl (px_s rfl px_0))
noncomputable def f_X12_isClear_185 (M : px_M) (x1 : Int32) (x3 : Int32) (x4 : Int32) (x5 : Int32) (x6 : Int32) (x7 : Int32) (x8 : Int32) : Option ((Int32 × Int32 × Int32 × Int32 × Int32) ⊕ (Int32 × Int32 × Int32 × Int32)) :=
  some (.inl (x4, x5, x6, x7, (x8 + 1)))
theorem s_X12_isClear_185 {x1 : Int32} {x3 : Int32} {x4 : Int32} {x5 : Int32} {x6 : Int32} {x7 : Int32} {x8 : Int32} {M : px_M} {L : px_L} {R : px_R} {e : ((Int32 × Int32 × Int32 × Int32 × Int32) ⊕ (Int32 × Int32 × Int32 × Int32))} (hS : SR sh R) (hd : 0 ≤ d) (hcu : cu ≤ mc) (hsu : su ≤ ms) (h : f_X12_isClear_185 M x1 x3 x4 x5 x6 x7 x8 = some e) (g : (sE (fun a => WX RX12 cX12_isClear 10 (some .boolean) ("isClear", []) d mc ms X (px_QF Post mc ms) 97 [(0, .ref 73), (1, .int x1), (3, .int x3), (4, .int a.1), (5, .int a.2.1), (6, .int a.2.2.1), (7, .int a.2.2.2.1), (8, .int a.2.2.2.2)] [] sh M L R n cu su) (fun t => WX RX12 cX12_isClear 10 (some .boolean) ("isClear", []) d mc ms X (px_QF Post mc ms) 191 [(4, .int t.1), (5, .int t.2.1), (6, .int t.2.2.1), (7, .int t.2.2.2)] [] sh M L R n cu su)) e) : WX RX12 cX12_isClear 10 (some .boolean) ("isClear", []) d mc ms X (px_QF Post mc ms) 185 [(0, .ref 73), (1, .int x1), (3, .int x3), (4, .int x4), (5, .int x5), (6, .int x6), (7, .int x7), (8, .int x8)] [] sh M L R n cu su := by
  unfold f_X12_isClear_185 at h
  refine wx_iinc (lv' := [(8, _), (0, _), (1, _), (3, _), (4, _), (5, _), (6, _), (7, _)]) dX12_isClear_185 rfl (i_1 _) (by decide) rfl ?_
  refine wx_goto (tgt := 97) dX12_isClear_188 (by decide) ?_
  obtain rfl := Option.some.inj h
  replace g := sE_l g
  exact wx_sub g (px_s rfl (px_s rfl (px_s rfl (px_s rfl (px_s rfl (px_s rfl (px_s rfl (px_s rfl px_0))))))))
noncomputable def f_X12_isClear_183 (M : px_M) (x1 : Int32) (x3 : Int32) (x4 : Int32) (x5 : Int32) (x6 : Int32) (x8 : Int32) (z0 : Int32) : Option ((Int32 × Int32 × Int32 × Int32 × Int32) ⊕ (Int32 × Int32 × Int32 × Int32)) :=
  f_X12_isClear_185 M x1 x3 x4 x5 x6 z0 x8
theorem s_X12_isClear_183 {x1 : Int32} {x3 : Int32} {x4 : Int32} {x5 : Int32} {x6 : Int32} {x8 : Int32} {z0 : Int32} {M : px_M} {L : px_L} {R : px_R} {e : ((Int32 × Int32 × Int32 × Int32 × Int32) ⊕ (Int32 × Int32 × Int32 × Int32))} (hS : SR sh R) (hd : 0 ≤ d) (hcu : cu ≤ mc) (hsu : su ≤ ms) (h : f_X12_isClear_183 M x1 x3 x4 x5 x6 x8 z0 = some e) (g : (sE (fun a => WX RX12 cX12_isClear 10 (some .boolean) ("isClear", []) d mc ms X (px_QF Post mc ms) 97 [(0, .ref 73), (1, .int x1), (3, .int x3), (4, .int a.1), (5, .int a.2.1), (6, .int a.2.2.1), (7, .int a.2.2.2.1), (8, .int a.2.2.2.2)] [] sh M L R n cu su) (fun t => WX RX12 cX12_isClear 10 (some .boolean) ("isClear", []) d mc ms X (px_QF Post mc ms) 191 [(4, .int t.1), (5, .int t.2.1), (6, .int t.2.2.1), (7, .int t.2.2.2)] [] sh M L R n cu su)) e) : WX RX12 cX12_isClear 10 (some .boolean) ("isClear", []) d mc ms X (px_QF Post mc ms) 183 [(0, .ref 73), (1, .int x1), (3, .int x3), (4, .int x4), (5, .int x5), (6, .int x6), (8, .int x8)] [.int z0] sh M L R n cu su := by
  unfold f_X12_isClear_183 at h
  refine wx_istore (lv' := [(7, _), (0, _), (1, _), (3, _), (4, _), (5, _), (6, _), (8, _)]) dX12_isClear_183 (by decide) rfl ?_
  exact wx_sub (s_X12_isClear_185 hS hd hcu hsu h g) (px_s rfl (px_s rfl (px_s rfl (px_s rfl (px_s rfl (px_s rfl (px_s rfl (px_s rfl px_0))))))))
noncomputable def f_X12_isClear_167 (M : px_M) (x1 : Int32) (x3 : Int32) (x4 : Int32) (x5 : Int32) (x7 : Int32) (x8 : Int32) (x9 : Int32) (z0 : Int32) : Option ((Int32 × Int32 × Int32 × Int32 × Int32) ⊕ (Int32 × Int32 × Int32 × Int32)) :=
  if x9 ≤ x7 then
    f_X12_isClear_183 M x1 x3 x4 x5 z0 x8 x7
  else
    f_X12_isClear_183 M x1 x3 x4 x5 z0 x8 x9
theorem s_X12_isClear_167 {x1 : Int32} {x3 : Int32} {x4 : Int32} {x5 : Int32} {x7 : Int32} {x8 : Int32} {x9 : Int32} {z0 : Int32} {M : px_M} {L : px_L} {R : px_R} {e : ((Int32 × Int32 × Int32 × Int32 × Int32) ⊕ (Int32 × Int32 × Int32 × Int32))} (hS : SR sh R) (hd : 0 ≤ d) (hcu : cu ≤ mc) (hsu : su ≤ ms) (h : f_X12_isClear_167 M x1 x3 x4 x5 x7 x8 x9 z0 = some e) (g : (sE (fun a => WX RX12 cX12_isClear 10 (some .boolean) ("isClear", []) d mc ms X (px_QF Post mc ms) 97 [(0, .ref 73), (1, .int x1), (3, .int x3), (4, .int a.1), (5, .int a.2.1), (6, .int a.2.2.1), (7, .int a.2.2.2.1), (8, .int a.2.2.2.2)] [] sh M L R n cu su) (fun t => WX RX12 cX12_isClear 10 (some .boolean) ("isClear", []) d mc ms X (px_QF Post mc ms) 191 [(4, .int t.1), (5, .int t.2.1), (6, .int t.2.2.1), (7, .int t.2.2.2)] [] sh M L R n cu su)) e) : WX RX12 cX12_isClear 10 (some .boolean) ("isClear", []) d mc ms X (px_QF Post mc ms) 167 [(0, .ref 73), (1, .int x1), (3, .int x3), (4, .int x4), (5, .int x5), (7, .int x7), (8, .int x8), (9, .int x9)] [.int z0] sh M L R n cu su := by
  unfold f_X12_isClear_167 at h
  refine wx_istore (lv' := [(6, _), (0, _), (1, _), (3, _), (4, _), (5, _), (7, _), (8, _), (9, _)]) dX12_isClear_167 (by decide) rfl ?_
  refine wx_iload dX12_isClear_169 rfl ?_
  refine wx_iload dX12_isClear_171 rfl ?_
  refine wx_icmp_le (tgt := 181) dX12_isClear_173 (by decide) (fun c_173 => ?_) (fun c_173 => ?_)
  · replace h := it_t h c_173
    refine wx_iload dX12_isClear_181 rfl ?_
    exact wx_sub (s_X12_isClear_183 hS hd hcu hsu h g) (px_s rfl (px_s rfl (px_s rfl (px_s rfl (px_s rfl (px_s rfl (px_s rfl px_0)))))))
  · replace h := it_f h c_173
    refine wx_iload dX12_isClear_176 rfl ?_
    refine wx_goto (tgt := 183) dX12_isClear_178 (by decide) ?_
    exact wx_sub (s_X12_isClear_183 hS hd hcu hsu h g) (px_s rfl (px_s rfl (px_s rfl (px_s rfl (px_s rfl (px_s rfl (px_s rfl px_0)))))))
noncomputable def f_X12_isClear_148 (M : px_M) (x1 : Int32) (x3 : Int32) (x4 : Int32) (x6 : Int32) (x7 : Int32) (x8 : Int32) (z0 : Int32) : Option ((Int32 × Int32 × Int32 × Int32 × Int32) ⊕ (Int32 × Int32 × Int32 × Int32)) :=
  f_X12_isClear_185 M x1 x3 x4 z0 x6 x7 x8
theorem s_X12_isClear_148 {x1 : Int32} {x3 : Int32} {x4 : Int32} {x6 : Int32} {x7 : Int32} {x8 : Int32} {z0 : Int32} {M : px_M} {L : px_L} {R : px_R} {e : ((Int32 × Int32 × Int32 × Int32 × Int32) ⊕ (Int32 × Int32 × Int32 × Int32))} (hS : SR sh R) (hd : 0 ≤ d) (hcu : cu ≤ mc) (hsu : su ≤ ms) (h : f_X12_isClear_148 M x1 x3 x4 x6 x7 x8 z0 = some e) (g : (sE (fun a => WX RX12 cX12_isClear 10 (some .boolean) ("isClear", []) d mc ms X (px_QF Post mc ms) 97 [(0, .ref 73), (1, .int x1), (3, .int x3), (4, .int a.1), (5, .int a.2.1), (6, .int a.2.2.1), (7, .int a.2.2.2.1), (8, .int a.2.2.2.2)] [] sh M L R n cu su) (fun t => WX RX12 cX12_isClear 10 (some .boolean) ("isClear", []) d mc ms X (px_QF Post mc ms) 191 [(4, .int t.1), (5, .int t.2.1), (6, .int t.2.2.1), (7, .int t.2.2.2)] [] sh M L R n cu su)) e) : WX RX12 cX12_isClear 10 (some .boolean) ("isClear", []) d mc ms X (px_QF Post mc ms) 148 [(0, .ref 73), (1, .int x1), (3, .int x3), (4, .int x4), (6, .int x6), (7, .int x7), (8, .int x8)] [.int z0] sh M L R n cu su := by
  unfold f_X12_isClear_148 at h
  refine wx_istore (lv' := [(5, _), (0, _), (1, _), (3, _), (4, _), (6, _), (7, _), (8, _)]) dX12_isClear_148 (by decide) rfl ?_
  refine wx_goto (tgt := 185) dX12_isClear_150 (by decide) ?_
  exact wx_sub (s_X12_isClear_185 hS hd hcu hsu h g) (px_s rfl (px_s rfl (px_s rfl (px_s rfl (px_s rfl (px_s rfl (px_s rfl (px_s rfl px_0))))))))
noncomputable def f_X12_isClear_132 (M : px_M) (x1 : Int32) (x3 : Int32) (x5 : Int32) (x6 : Int32) (x7 : Int32) (x8 : Int32) (x9 : Int32) (z0 : Int32) : Option ((Int32 × Int32 × Int32 × Int32 × Int32) ⊕ (Int32 × Int32 × Int32 × Int32)) :=
  if x9 ≤ x5 then
    f_X12_isClear_148 M x1 x3 z0 x6 x7 x8 x5
  else
    f_X12_isClear_148 M x1 x3 z0 x6 x7 x8 x9
theorem s_X12_isClear_132 {x1 : Int32} {x3 : Int32} {x5 : Int32} {x6 : Int32} {x7 : Int32} {x8 : Int32} {x9 : Int32} {z0 : Int32} {M : px_M} {L : px_L} {R : px_R} {e : ((Int32 × Int32 × Int32 × Int32 × Int32) ⊕ (Int32 × Int32 × Int32 × Int32))} (hS : SR sh R) (hd : 0 ≤ d) (hcu : cu ≤ mc) (hsu : su ≤ ms) (h : f_X12_isClear_132 M x1 x3 x5 x6 x7 x8 x9 z0 = some e) (g : (sE (fun a => WX RX12 cX12_isClear 10 (some .boolean) ("isClear", []) d mc ms X (px_QF Post mc ms) 97 [(0, .ref 73), (1, .int x1), (3, .int x3), (4, .int a.1), (5, .int a.2.1), (6, .int a.2.2.1), (7, .int a.2.2.2.1), (8, .int a.2.2.2.2)] [] sh M L R n cu su) (fun t => WX RX12 cX12_isClear 10 (some .boolean) ("isClear", []) d mc ms X (px_QF Post mc ms) 191 [(4, .int t.1), (5, .int t.2.1), (6, .int t.2.2.1), (7, .int t.2.2.2)] [] sh M L R n cu su)) e) : WX RX12 cX12_isClear 10 (some .boolean) ("isClear", []) d mc ms X (px_QF Post mc ms) 132 [(0, .ref 73), (1, .int x1), (3, .int x3), (5, .int x5), (6, .int x6), (7, .int x7), (8, .int x8), (9, .int x9)] [.int z0] sh M L R n cu su := by
  unfold f_X12_isClear_132 at h
  refine wx_istore (lv' := [(4, _), (0, _), (1, _), (3, _), (5, _), (6, _), (7, _), (8, _), (9, _)]) dX12_isClear_132 (by decide) rfl ?_
  refine wx_iload dX12_isClear_134 rfl ?_
  refine wx_iload dX12_isClear_136 rfl ?_
  refine wx_icmp_le (tgt := 146) dX12_isClear_138 (by decide) (fun c_138 => ?_) (fun c_138 => ?_)
  · replace h := it_t h c_138
    refine wx_iload dX12_isClear_146 rfl ?_
    exact wx_sub (s_X12_isClear_148 hS hd hcu hsu h g) (px_s rfl (px_s rfl (px_s rfl (px_s rfl (px_s rfl (px_s rfl (px_s rfl px_0)))))))
  · replace h := it_f h c_138
    refine wx_iload dX12_isClear_141 rfl ?_
    refine wx_goto (tgt := 148) dX12_isClear_143 (by decide) ?_
    exact wx_sub (s_X12_isClear_148 hS hd hcu hsu h g) (px_s rfl (px_s rfl (px_s rfl (px_s rfl (px_s rfl (px_s rfl (px_s rfl px_0)))))))
noncomputable def f_X12_isClear_97 (M : px_M) (x1 : Int32) (x3 : Int32) (x4 : Int32) (x5 : Int32) (x6 : Int32) (x7 : Int32) (x8 : Int32) : Option ((Int32 × Int32 × Int32 × Int32 × Int32) ⊕ (Int32 × Int32 × Int32 × Int32)) :=
  if x3 < x8 then
    some (.inr (x4, x5, x6, x7))
  else
    ok (ix x8 8) <|
    nm (M 75 x8.toNatClampNeg) fun v_110 =>
    if x1 < x8 then
      if x6 ≤ v_110 then
        f_X12_isClear_167 M x1 x3 x4 x5 x7 x8 v_110 x6
      else
        f_X12_isClear_167 M x1 x3 x4 x5 x7 x8 v_110 v_110
    else
      if x4 ≤ v_110 then
        f_X12_isClear_132 M x1 x3 x5 x6 x7 x8 v_110 x4
      else
        f_X12_isClear_132 M x1 x3 x5 x6 x7 x8 v_110 v_110
theorem s_X12_isClear_97b {x1 : Int32} {x3 : Int32} {x4 : Int32} {x5 : Int32} {x6 : Int32} {x7 : Int32} {x8 : Int32} {M : px_M} {L : px_L} {R : px_R} {e : ((Int32 × Int32 × Int32 × Int32 × Int32) ⊕ (Int32 × Int32 × Int32 × Int32))} (hS : SR sh R) (hd : 0 ≤ d) (hcu : cu ≤ mc) (hsu : su ≤ ms) (h : f_X12_isClear_97 M x1 x3 x4 x5 x6 x7 x8 = some e) (g : (sE (fun a => WX RX12 cX12_isClear 10 (some .boolean) ("isClear", []) d mc ms X (px_QF Post mc ms) 97 [(0, .ref 73), (1, .int x1), (3, .int x3), (4, .int a.1), (5, .int a.2.1), (6, .int a.2.2.1), (7, .int a.2.2.2.1), (8, .int a.2.2.2.2)] [] sh M L R n cu su) (fun t => WX RX12 cX12_isClear 10 (some .boolean) ("isClear", []) d mc ms X (px_QF Post mc ms) 191 [(4, .int t.1), (5, .int t.2.1), (6, .int t.2.2.1), (7, .int t.2.2.2)] [] sh M L R n cu su)) e) : WX RX12 cX12_isClear 10 (some .boolean) ("isClear", []) d mc ms X (px_QF Post mc ms) 97 [(0, .ref 73), (1, .int x1), (3, .int x3), (4, .int x4), (5, .int x5), (6, .int x6), (7, .int x7), (8, .int x8)] [] sh M L R n cu su := by
  unfold f_X12_isClear_97 at h
  refine wx_iload dX12_isClear_97 rfl ?_
  refine wx_iload_n dX12_isClear_99 rfl ?_
  refine wx_icmp_gt (tgt := 191) dX12_isClear_100 (by decide) (fun c_100 => ?_) (fun c_100 => ?_)
  · replace h := it_t h c_100
    obtain rfl := Option.some.inj h
    replace g := sE_r g
    exact wx_sub g (px_s rfl (px_s rfl (px_s rfl (px_s rfl px_0))))
  · replace h := it_f h c_100
    refine wx_aload_n dX12_isClear_103 rfl ?_
    refine wx_getR dX12_isClear_104 fl_X12_13 (sc_73 hS) rfl (rr_73_5 hS) ?_
    refine wx_iload dX12_isClear_107 rfl ?_
    obtain ⟨w_109, h⟩ := ok_some h
    refine wx_iald dX12_isClear_109 (sc_75 hS) (ix_in w_109) ?_
    refine wx_nami (fun v_110 q_110 => ?_)
    replace h := nm_at h q_110
    refine wx_istore (lv' := [(9, _), (0, _), (1, _), (3, _), (4, _), (5, _), (6, _), (7, _), (8, _)]) dX12_isClear_110 (by decide) rfl ?_
    refine wx_iload dX12_isClear_112 rfl ?_
    refine wx_iload_n dX12_isClear_114 rfl ?_
    refine wx_icmp_gt (tgt := 153) dX12_isClear_115 (by decide) (fun c_115 => ?_) (fun c_115 => ?_)
    · replace h := it_t h c_115
      refine wx_iload dX12_isClear_153 rfl ?_
      refine wx_iload dX12_isClear_155 rfl ?_
      refine wx_icmp_ge (tgt := 165) dX12_isClear_157 (by decide) (fun c_157 => ?_) (fun c_157 => ?_)
      · replace h := it_t h c_157
        refine wx_iload dX12_isClear_165 rfl ?_
        exact wx_sub (s_X12_isClear_167 hS hd hcu hsu h g) (px_s rfl (px_s rfl (px_s rfl (px_s rfl (px_s rfl (px_s rfl (px_s rfl (px_s rfl px_0))))))))
      · replace h := it_f h c_157
        refine wx_iload dX12_isClear_160 rfl ?_
        refine wx_goto (tgt := 167) dX12_isClear_162 (by decide) ?_
        exact wx_sub (s_X12_isClear_167 hS hd hcu hsu h g) (px_s rfl (px_s rfl (px_s rfl (px_s rfl (px_s rfl (px_s rfl (px_s rfl (px_s rfl px_0))))))))
    · replace h := it_f h c_115
      refine wx_iload dX12_isClear_118 rfl ?_
      refine wx_iload dX12_isClear_120 rfl ?_
      refine wx_icmp_ge (tgt := 130) dX12_isClear_122 (by decide) (fun c_122 => ?_) (fun c_122 => ?_)
      · replace h := it_t h c_122
        refine wx_iload dX12_isClear_130 rfl ?_
        exact wx_sub (s_X12_isClear_132 hS hd hcu hsu h g) (px_s rfl (px_s rfl (px_s rfl (px_s rfl (px_s rfl (px_s rfl (px_s rfl (px_s rfl px_0))))))))
      · replace h := it_f h c_122
        refine wx_iload dX12_isClear_125 rfl ?_
        refine wx_goto (tgt := 132) dX12_isClear_127 (by decide) ?_
        exact wx_sub (s_X12_isClear_132 hS hd hcu hsu h g) (px_s rfl (px_s rfl (px_s rfl (px_s rfl (px_s rfl (px_s rfl (px_s rfl (px_s rfl px_0))))))))
theorem s_X12_isClear_97 {x1 : Int32} {x3 : Int32} {x4 : Int32} {x5 : Int32} {x6 : Int32} {x7 : Int32} {x8 : Int32} {M : px_M} {L : px_L} {R : px_R} {e : (Int32 × Int32 × Int32 × Int32)} (hS : SR sh R) (hd : 0 ≤ d) (hcu : cu ≤ mc) (hsu : su ≤ ms) (h : lpf (fun a : Int32 × Int32 × Int32 × Int32 × Int32 => f_X12_isClear_97 M x1 x3 a.1 a.2.1 a.2.2.1 a.2.2.2.1 a.2.2.2.2) (x4, x5, x6, x7, x8) = some e) (g : WX RX12 cX12_isClear 10 (some .boolean) ("isClear", []) d mc ms X (px_QF Post mc ms) 191 [(4, .int e.1), (5, .int e.2.1), (6, .int e.2.2.1), (7, .int e.2.2.2)] [] sh M L R n cu su) : WX RX12 cX12_isClear 10 (some .boolean) ("isClear", []) d mc ms X (px_QF Post mc ms) 97 [(0, .ref 73), (1, .int x1), (3, .int x3), (4, .int x4), (5, .int x5), (6, .int x6), (7, .int x7), (8, .int x8)] [] sh M L R n cu su := by
  have key := lpf_wp (P := (fun a => WX RX12 cX12_isClear 10 (some .boolean) ("isClear", []) d mc ms X (px_QF Post mc ms) 97 [(0, .ref 73), (1, .int x1), (3, .int x3), (4, .int a.1), (5, .int a.2.1), (6, .int a.2.2.1), (7, .int a.2.2.2.1), (8, .int a.2.2.2.2)] [] sh M L R n cu su)) (G := (fun t => WX RX12 cX12_isClear 10 (some .boolean) ("isClear", []) d mc ms X (px_QF Post mc ms) 191 [(4, .int t.1), (5, .int t.2.1), (6, .int t.2.2.1), (7, .int t.2.2.2)] [] sh M L R n cu su)) (fun a r h g => s_X12_isClear_97b (x1 := x1) (x3 := x3) (x4 := a.1) (x5 := a.2.1) (x6 := a.2.2.1) (x7 := a.2.2.2.1) (x8 := a.2.2.2.2) (M := M) (L := L) (R := R) hS hd hcu hsu h g) (a := (x4, x5, x6, x7, x8)) h g
  exact key
noncomputable def f_X12_isClear_55 (M : px_M) (x1 : Int32) (x2 : Int32) (x3 : Int32) : Option ((Int32) ⊕ (Int32)) :=
  if ((M 73 1) - 1) ≤ x3 then
    some (.inr x3)
  else
    ok (ix x3 8) <|
    if (M 78 x3.toNatClampNeg) = 0 then
      some (.inl (x3 + 1))
    else
      some (.inr x3)
theorem s_X12_isClear_55b {x1 : Int32} {x2 : Int32} {x3 : Int32} {M : px_M} {L : px_L} {R : px_R} {e : ((Int32) ⊕ (Int32))} (hS : SR sh R) (hd : 0 ≤ d) (hcu : cu ≤ mc) (hsu : su ≤ ms) (h : f_X12_isClear_55 M x1 x2 x3 = some e) (g : (sE (fun a => WX RX12 cX12_isClear 10 (some .boolean) ("isClear", []) d mc ms X (px_QF Post mc ms) 55 [(0, .ref 73), (1, .int x1), (2, .int x2), (3, .int a)] [] sh M L R n cu su) (fun t => WX RX12 cX12_isClear 10 (some .boolean) ("isClear", []) d mc ms X (px_QF Post mc ms) 80 [(0, .ref 73), (1, .int x1), (2, .int x2), (3, .int t)] [] sh M L R n cu su)) e) : WX RX12 cX12_isClear 10 (some .boolean) ("isClear", []) d mc ms X (px_QF Post mc ms) 55 [(0, .ref 73), (1, .int x1), (2, .int x2), (3, .int x3)] [] sh M L R n cu su := by
  unfold f_X12_isClear_55 at h
  refine wx_iload_n dX12_isClear_55 rfl ?_
  refine wx_aload_n dX12_isClear_56 rfl ?_
  refine wx_getI dX12_isClear_57 fl_X12_182 (sc_73 hS) rfl ?_
  refine wx_iconst (v := 1) dX12_isClear_60 (by decide) ?_
  refine wx_isub dX12_isClear_61 ?_
  refine wx_icmp_ge (tgt := 80) dX12_isClear_62 (by decide) (fun c_62 => ?_) (fun c_62 => ?_)
  · replace h := it_t h c_62
    obtain rfl := Option.some.inj h
    replace g := sE_r g
    exact wx_sub g (px_s rfl (px_s rfl (px_s rfl (px_s rfl px_0))))
  · replace h := it_f h c_62
    refine wx_aload_n dX12_isClear_65 rfl ?_
    refine wx_getR dX12_isClear_66 fl_X12_22 (sc_73 hS) rfl (rr_73_8 hS) ?_
    refine wx_iload_n dX12_isClear_69 rfl ?_
    obtain ⟨w_70, h⟩ := ok_some h
    refine wx_bald dX12_isClear_70 (sc_78 hS) (ix_in w_70) ?_
    refine wx_if_ne (tgt := 80) dX12_isClear_71 (by decide) (fun c_71 => ?_) (fun c_71 => ?_)
    · replace h := it_f h c_71
      obtain rfl := Option.some.inj h
      replace g := sE_r g
      exact wx_sub g (px_s rfl (px_s rfl (px_s rfl (px_s rfl px_0))))
    · replace h := it_t h c_71
      refine wx_iinc (lv' := [(3, _), (0, _), (1, _), (2, _)]) dX12_isClear_74 rfl (i_1 _) (by decide) rfl ?_
      refine wx_goto (tgt := 55) dX12_isClear_77 (by decide) ?_
      obtain rfl := Option.some.inj h
      replace g := sE_l g
      exact wx_sub g (px_s rfl (px_s rfl (px_s rfl (px_s rfl px_0))))
theorem s_X12_isClear_55 {x1 : Int32} {x2 : Int32} {x3 : Int32} {M : px_M} {L : px_L} {R : px_R} {e : (Int32)} (hS : SR sh R) (hd : 0 ≤ d) (hcu : cu ≤ mc) (hsu : su ≤ ms) (h : lpf (fun a : Int32 => f_X12_isClear_55 M x1 x2 a) x3 = some e) (g : WX RX12 cX12_isClear 10 (some .boolean) ("isClear", []) d mc ms X (px_QF Post mc ms) 80 [(0, .ref 73), (1, .int x1), (2, .int x2), (3, .int e)] [] sh M L R n cu su) : WX RX12 cX12_isClear 10 (some .boolean) ("isClear", []) d mc ms X (px_QF Post mc ms) 55 [(0, .ref 73), (1, .int x1), (2, .int x2), (3, .int x3)] [] sh M L R n cu su := by
  have key := lpf_wp (P := (fun a => WX RX12 cX12_isClear 10 (some .boolean) ("isClear", []) d mc ms X (px_QF Post mc ms) 55 [(0, .ref 73), (1, .int x1), (2, .int x2), (3, .int a)] [] sh M L R n cu su)) (G := (fun t => WX RX12 cX12_isClear 10 (some .boolean) ("isClear", []) d mc ms X (px_QF Post mc ms) 80 [(0, .ref 73), (1, .int x1), (2, .int x2), (3, .int t)] [] sh M L R n cu su)) (fun a r h g => s_X12_isClear_55b (x1 := x1) (x2 := x2) (x3 := a) (M := M) (L := L) (R := R) hS hd hcu hsu h g) (a := x3) h g
  exact key
noncomputable def f_X12_isClear_34 (M : px_M) (x1 : Int32) (x2 : Int32) (x3 : Int32) : Option ((Int32) ⊕ (Int32)) :=
  if x2 ≤ 0 then
    some (.inr x2)
  else
    nm (x2 - 1) fun v_45 =>
    ok (ix v_45 8) <|
    if (M 78 v_45.toNatClampNeg) = 0 then
      some (.inl (x2 + -1))
    else
      some (.inr x2)
theorem s_X12_isClear_34b {x1 : Int32} {x2 : Int32} {x3 : Int32} {M : px_M} {L : px_L} {R : px_R} {e : ((Int32) ⊕ (Int32))} (hS : SR sh R) (hd : 0 ≤ d) (hcu : cu ≤ mc) (hsu : su ≤ ms) (h : f_X12_isClear_34 M x1 x2 x3 = some e) (g : (sE (fun a => WX RX12 cX12_isClear 10 (some .boolean) ("isClear", []) d mc ms X (px_QF Post mc ms) 34 [(0, .ref 73), (1, .int x1), (2, .int a), (3, .int x3)] [] sh M L R n cu su) (fun t => WX RX12 cX12_isClear 10 (some .boolean) ("isClear", []) d mc ms X (px_QF Post mc ms) 55 [(0, .ref 73), (1, .int x1), (2, .int t), (3, .int x3)] [] sh M L R n cu su)) e) : WX RX12 cX12_isClear 10 (some .boolean) ("isClear", []) d mc ms X (px_QF Post mc ms) 34 [(0, .ref 73), (1, .int x1), (2, .int x2), (3, .int x3)] [] sh M L R n cu su := by
  unfold f_X12_isClear_34 at h
  refine wx_iload_n dX12_isClear_34 rfl ?_
  refine wx_if_le (tgt := 55) dX12_isClear_35 (by decide) (fun c_35 => ?_) (fun c_35 => ?_)
  · replace h := it_t h c_35
    obtain rfl := Option.some.inj h
    replace g := sE_r g
    exact wx_sub g (px_s rfl (px_s rfl (px_s rfl (px_s rfl px_0))))
  · replace h := it_f h c_35
    refine wx_aload_n dX12_isClear_38 rfl ?_
    refine wx_getR dX12_isClear_39 fl_X12_22 (sc_73 hS) rfl (rr_73_8 hS) ?_
    refine wx_iload_n dX12_isClear_42 rfl ?_
    refine wx_iconst (v := 1) dX12_isClear_43 (by decide) ?_
    refine wx_isub dX12_isClear_44 ?_
    refine wx_nami (fun v_45 q_45 => ?_)
    replace h := nm_at h q_45
    obtain ⟨w_45, h⟩ := ok_some h
    refine wx_bald dX12_isClear_45 (sc_78 hS) (ix_in w_45) ?_
    refine wx_if_ne (tgt := 55) dX12_isClear_46 (by decide) (fun c_46 => ?_) (fun c_46 => ?_)
    · replace h := it_f h c_46
      obtain rfl := Option.some.inj h
      replace g := sE_r g
      exact wx_sub g (px_s rfl (px_s rfl (px_s rfl (px_s rfl px_0))))
    · replace h := it_t h c_46
      refine wx_iinc (lv' := [(2, _), (0, _), (1, _), (3, _)]) dX12_isClear_49 rfl (i_m1 _) (by decide) rfl ?_
      refine wx_goto (tgt := 34) dX12_isClear_52 (by decide) ?_
      obtain rfl := Option.some.inj h
      replace g := sE_l g
      exact wx_sub g (px_s rfl (px_s rfl (px_s rfl (px_s rfl px_0))))
theorem s_X12_isClear_34 {x1 : Int32} {x2 : Int32} {x3 : Int32} {M : px_M} {L : px_L} {R : px_R} {e : (Int32)} (hS : SR sh R) (hd : 0 ≤ d) (hcu : cu ≤ mc) (hsu : su ≤ ms) (h : lpf (fun a : Int32 => f_X12_isClear_34 M x1 a x3) x2 = some e) (g : WX RX12 cX12_isClear 10 (some .boolean) ("isClear", []) d mc ms X (px_QF Post mc ms) 55 [(0, .ref 73), (1, .int x1), (2, .int e), (3, .int x3)] [] sh M L R n cu su) : WX RX12 cX12_isClear 10 (some .boolean) ("isClear", []) d mc ms X (px_QF Post mc ms) 34 [(0, .ref 73), (1, .int x1), (2, .int x2), (3, .int x3)] [] sh M L R n cu su := by
  have key := lpf_wp (P := (fun a => WX RX12 cX12_isClear 10 (some .boolean) ("isClear", []) d mc ms X (px_QF Post mc ms) 34 [(0, .ref 73), (1, .int x1), (2, .int a), (3, .int x3)] [] sh M L R n cu su)) (G := (fun t => WX RX12 cX12_isClear 10 (some .boolean) ("isClear", []) d mc ms X (px_QF Post mc ms) 55 [(0, .ref 73), (1, .int x1), (2, .int t), (3, .int x3)] [] sh M L R n cu su)) (fun a r h g => s_X12_isClear_34b (x1 := x1) (x2 := a) (x3 := x3) (M := M) (L := L) (R := R) hS hd hcu hsu h g) (a := x2) h g
  exact key
noncomputable def f_X12_isClear_2 (M : px_M) (x1 : Int32) (x2 : Int32) : Option ((Int32 × px_M) ⊕ (px_M)) :=
  if (M 73 1) ≤ x2 then
    some (.inr M)
  else
    ok (ix x2 8) <|
    ok (ix (M 74 x2.toNatClampNeg) 8) <|
    nm (px_u M 75 (M 74 x2.toNatClampNeg).toNatClampNeg x2) fun M_21 =>
    some (.inl ((x2 + 1), M_21))
theorem s_X12_isClear_2b {x1 : Int32} {x2 : Int32} {M : px_M} {L : px_L} {R : px_R} {e : ((Int32 × px_M) ⊕ (px_M))} (hS : SR sh R) (hd : 0 ≤ d) (hcu : cu ≤ mc) (hsu : su ≤ ms) (h : f_X12_isClear_2 M x1 x2 = some e) (g : (sE (fun a => WX RX12 cX12_isClear 10 (some .boolean) ("isClear", []) d mc ms X (px_QF Post mc ms) 2 [(0, .ref 73), (1, .int x1), (2, .int a.1)] [] sh (a.2) L R n cu su) (fun t => WX RX12 cX12_isClear 10 (some .boolean) ("isClear", []) d mc ms X (px_QF Post mc ms) 28 [(0, .ref 73), (1, .int x1)] [] sh t L R n cu su)) e) : WX RX12 cX12_isClear 10 (some .boolean) ("isClear", []) d mc ms X (px_QF Post mc ms) 2 [(0, .ref 73), (1, .int x1), (2, .int x2)] [] sh M L R n cu su := by
  unfold f_X12_isClear_2 at h
  refine wx_iload_n dX12_isClear_2 rfl ?_
  refine wx_aload_n dX12_isClear_3 rfl ?_
  refine wx_getI dX12_isClear_4 fl_X12_182 (sc_73 hS) rfl ?_
  refine wx_icmp_ge (tgt := 28) dX12_isClear_7 (by decide) (fun c_7 => ?_) (fun c_7 => ?_)
  · replace h := it_t h c_7
    obtain rfl := Option.some.inj h
    replace g := sE_r g
    exact wx_sub g (px_s rfl (px_s rfl px_0))
  · replace h := it_f h c_7
    refine wx_aload_n dX12_isClear_10 rfl ?_
    refine wx_getR dX12_isClear_11 fl_X12_13 (sc_73 hS) rfl (rr_73_5 hS) ?_
    refine wx_aload_n dX12_isClear_14 rfl ?_
    refine wx_getR dX12_isClear_15 fl_X12_7 (sc_73 hS) rfl (rr_73_4 hS) ?_
    refine wx_iload_n dX12_isClear_18 rfl ?_
    obtain ⟨w_19, h⟩ := ok_some h
    refine wx_iald dX12_isClear_19 (sc_74 hS) (ix_in w_19) ?_
    refine wx_iload_n dX12_isClear_20 rfl ?_
    obtain ⟨w_21, h⟩ := ok_some h
    refine wx_iast dX12_isClear_21 (sc_75 hS) (ix_in w_21) ?_
    refine wx_namM (fun M_21 q_21 => ?_)
    replace h := nm_at h q_21
    refine wx_iinc (lv' := [(2, _), (0, _), (1, _)]) dX12_isClear_22 rfl (i_1 _) (by decide) rfl ?_
    refine wx_goto (tgt := 2) dX12_isClear_25 (by decide) ?_
    obtain rfl := Option.some.inj h
    replace g := sE_l g
    exact wx_sub g (px_s rfl (px_s rfl (px_s rfl px_0)))
theorem s_X12_isClear_2 {x1 : Int32} {x2 : Int32} {M : px_M} {L : px_L} {R : px_R} {e : (px_M)} (hS : SR sh R) (hd : 0 ≤ d) (hcu : cu ≤ mc) (hsu : su ≤ ms) (h : lpf (fun a : Int32 × px_M => f_X12_isClear_2 a.2 x1 a.1) (x2, M) = some e) (g : WX RX12 cX12_isClear 10 (some .boolean) ("isClear", []) d mc ms X (px_QF Post mc ms) 28 [(0, .ref 73), (1, .int x1)] [] sh e L R n cu su) : WX RX12 cX12_isClear 10 (some .boolean) ("isClear", []) d mc ms X (px_QF Post mc ms) 2 [(0, .ref 73), (1, .int x1), (2, .int x2)] [] sh M L R n cu su := by
  have key := lpf_wp (P := (fun a => WX RX12 cX12_isClear 10 (some .boolean) ("isClear", []) d mc ms X (px_QF Post mc ms) 2 [(0, .ref 73), (1, .int x1), (2, .int a.1)] [] sh (a.2) L R n cu su)) (G := (fun t => WX RX12 cX12_isClear 10 (some .boolean) ("isClear", []) d mc ms X (px_QF Post mc ms) 28 [(0, .ref 73), (1, .int x1)] [] sh t L R n cu su)) (fun a r h g => s_X12_isClear_2b (x1 := x1) (x2 := a.1) (M := a.2) (L := L) (R := R) hS hd hcu hsu h g) (a := (x2, M)) h g
  exact key
noncomputable def f_X12_isClear_210 (M : px_M) (z0 : Int32) : Option (Int32 × px_M) :=
  ok (zb z0) <|
  some (z0, M)
theorem s_X12_isClear_210 {z0 : Int32} {M : px_M} {L : px_L} {R : px_R} {e : (Int32 × px_M)} (hS : SR sh R) (hd : 0 ≤ d) (hcu : cu ≤ mc) (hsu : su ≤ ms) (h : f_X12_isClear_210 M z0 = some e) (g : Post (some (.int (e.1))) sh (e.2) L R n) : WX RX12 cX12_isClear 10 (some .boolean) ("isClear", []) d mc ms X (px_QF Post mc ms) 210 [] [.int z0] sh M L R n cu su := by
  unfold f_X12_isClear_210 at h
  obtain ⟨w_210, h⟩ := ok_some h
  refine wx_zret dX12_isClear_210 (zb_n w_210) hcu hsu ?_
  obtain rfl := Option.some.inj h
  exact g
noncomputable def f_X12_isClear_205 (M : px_M) : Option (Int32 × px_M) :=
  f_X12_isClear_210 M 1
theorem s_X12_isClear_205 {M : px_M} {L : px_L} {R : px_R} {e : (Int32 × px_M)} (hS : SR sh R) (hd : 0 ≤ d) (hcu : cu ≤ mc) (hsu : su ≤ ms) (h : f_X12_isClear_205 M = some e) (g : Post (some (.int (e.1))) sh (e.2) L R n) : WX RX12 cX12_isClear 10 (some .boolean) ("isClear", []) d mc ms X (px_QF Post mc ms) 205 [] [] sh M L R n cu su := by
  unfold f_X12_isClear_205 at h
  refine wx_iconst (v := 1) dX12_isClear_205 (by decide) ?_
  refine wx_goto (tgt := 210) dX12_isClear_206 (by decide) ?_
  exact wx_sub (s_X12_isClear_210 hS hd hcu hsu h g) px_0
noncomputable def f_X12_isClear (M : px_M) (p1 : Int32) : Option (Int32 × px_M) :=
  bd1 (lpf (fun a : Int32 × px_M => f_X12_isClear_2 a.2 p1 a.1) (0, M)) fun e_2 =>
  nm (p1 + 1) fun v_33 =>
  bd1 (lpf (fun a : Int32 => f_X12_isClear_34 e_2 p1 a v_33) p1) fun e_34 =>
  bd1 (lpf (fun a : Int32 => f_X12_isClear_55 e_2 p1 e_34 a) v_33) fun e_55 =>
  bd1 (lpf (fun a : Int32 × Int32 × Int32 × Int32 × Int32 => f_X12_isClear_97 e_2 p1 e_55 a.1 a.2.1 a.2.2.1 a.2.2.2.1 a.2.2.2.2) (9, (-1), 9, (-1), e_34)) fun e_97 =>
  if e_97.2.2.2 < e_97.1 then
    f_X12_isClear_205 e_2
  else
    if e_97.2.2.1 ≤ e_97.2.1 then
      f_X12_isClear_210 e_2 0
    else
      f_X12_isClear_205 e_2
theorem s_X12_isClear {d : Nat} {X : Nat × (Nat → Int32)} {sh : px_Sh} {M : px_M} {L : px_L} {R : px_R} {n : Nat} {p1 : Int32} {e : Int32 × px_M} (hS : SR sh R) (hd : 0 ≤ d) (h : f_X12_isClear M p1 = some e) : MX yX12_isClear cX12_isClear 10 (some .boolean) d 0 0 X [.ref 73, .int p1] sh M L R n (px_pu (some (.int e.1)) sh e.2 L R n) := by
  refine MX.of (by decide +kernel) (by exact Nat.le_of_ble_eq_true rfl) ?_
  have hcu : 0 ≤ 0 := Nat.zero_le _
  have hsu : 0 ≤ 0 := Nat.zero_le _
  have g : px_pu (some (.int e.1)) sh e.2 L R n (some (.int e.1)) sh e.2 L R n := ⟨rfl, rfl, rfl, rfl, rfl, rfl⟩
  unfold f_X12_isClear at h
  refine wx_iconst (v := 0) dX12_isClear_0 (by decide) ?_
  refine wx_istore_n (lv' := [(2, _), (0, _), (1, _)]) dX12_isClear_1 (by decide) rfl ?_
  obtain ⟨e_2, k_2, h⟩ := bd1_some h
  refine wx_sub (s_X12_isClear_2 hS hd hcu hsu k_2 ?_) (px_s rfl (px_s rfl (px_s rfl px_0)))
  refine wx_iload_n dX12_isClear_28 rfl ?_
  refine wx_istore_n (lv' := [(2, _), (0, _), (1, _)]) dX12_isClear_29 (by decide) rfl ?_
  refine wx_iload_n dX12_isClear_30 rfl ?_
  refine wx_iconst (v := 1) dX12_isClear_31 (by decide) ?_
  refine wx_iadd dX12_isClear_32 ?_
  refine wx_nami (fun v_33 q_33 => ?_)
  replace h := nm_at h q_33
  refine wx_istore_n (lv' := [(3, _), (2, _), (0, _), (1, _)]) dX12_isClear_33 (by decide) rfl ?_
  obtain ⟨e_34, k_34, h⟩ := bd1_some h
  refine wx_sub (s_X12_isClear_34 hS hd hcu hsu k_34 ?_) (px_s rfl (px_s rfl (px_s rfl (px_s rfl px_0))))
  obtain ⟨e_55, k_55, h⟩ := bd1_some h
  refine wx_sub (s_X12_isClear_55 hS hd hcu hsu k_55 ?_) (px_s rfl (px_s rfl (px_s rfl (px_s rfl px_0))))
  refine wx_bipush (v := 9) dX12_isClear_80 (by decide) ?_
  refine wx_istore (lv' := [(4, _), (0, _), (1, _), (2, _), (3, _)]) dX12_isClear_82 (by decide) rfl ?_
  refine wx_iconst (v := (-1)) dX12_isClear_84 (by decide) ?_
  refine wx_istore (lv' := [(5, _), (4, _), (0, _), (1, _), (2, _), (3, _)]) dX12_isClear_85 (by decide) rfl ?_
  refine wx_bipush (v := 9) dX12_isClear_87 (by decide) ?_
  refine wx_istore (lv' := [(6, _), (5, _), (4, _), (0, _), (1, _), (2, _), (3, _)]) dX12_isClear_89 (by decide) rfl ?_
  refine wx_iconst (v := (-1)) dX12_isClear_91 (by decide) ?_
  refine wx_istore (lv' := [(7, _), (6, _), (5, _), (4, _), (0, _), (1, _), (2, _), (3, _)]) dX12_isClear_92 (by decide) rfl ?_
  refine wx_iload_n dX12_isClear_94 rfl ?_
  refine wx_istore (lv' := [(8, _), (7, _), (6, _), (5, _), (4, _), (0, _), (1, _), (2, _), (3, _)]) dX12_isClear_95 (by decide) rfl ?_
  obtain ⟨e_97, k_97, h⟩ := bd1_some h
  refine wx_sub (s_X12_isClear_97 hS hd hcu hsu k_97 ?_) (px_s rfl (px_s rfl (px_s rfl (px_s rfl (px_s rfl (px_s rfl (px_s rfl (px_s rfl px_0))))))))
  refine wx_iload dX12_isClear_191 rfl ?_
  refine wx_iload dX12_isClear_193 rfl ?_
  refine wx_icmp_gt (tgt := 205) dX12_isClear_195 (by decide) (fun c_195 => ?_) (fun c_195 => ?_)
  · replace h := it_t h c_195
    exact wx_sub (s_X12_isClear_205 hS hd hcu hsu h g) px_0
  · replace h := it_f h c_195
    refine wx_iload dX12_isClear_198 rfl ?_
    refine wx_iload dX12_isClear_200 rfl ?_
    refine wx_icmp_ge (tgt := 209) dX12_isClear_202 (by decide) (fun c_202 => ?_) (fun c_202 => ?_)
    · replace h := it_t h c_202
      refine wx_iconst (v := 0) dX12_isClear_209 (by decide) ?_
      exact wx_sub (s_X12_isClear_210 hS hd hcu hsu h g) px_0
    · replace h := it_f h c_202
      exact wx_sub (s_X12_isClear_205 hS hd hcu hsu h g) px_0
noncomputable def f_X12_clear_66 (M : px_M) : Option (Int32 × px_M) :=
  some (0, M)
theorem s_X12_clear_66 {M : px_M} {L : px_L} {R : px_R} {e : (Int32 × px_M)} (hS : SR sh R) (hd : 1 ≤ d) (hcu : cu ≤ mc) (hsu : su ≤ ms) (h : f_X12_clear_66 M = some e) (g : Post (some (.int (e.1))) sh (e.2) L R n) : WX RX12 cX12_clear 2 (some .boolean) ("clear", []) d mc ms X (px_QF Post mc ms) 66 [] [] sh M L R n cu su := by
  unfold f_X12_clear_66 at h
  refine wx_iconst (v := 0) dX12_clear_66 (by decide) ?_
  refine wx_zret dX12_clear_67 rfl hcu hsu ?_
  obtain rfl := Option.some.inj h
  exact g
noncomputable def f_X12_clear_45 (M : px_M) (x1 : Int32) (z0 : Int32) : Option (Int32 × px_M) :=
  bd1 (f_X12_bad M z0 2) fun e_46 =>
  if e_46.1 = 0 then
    ok (ix x1 8) <|
    bd1 (f_X12_bad e_46.2 (e_46.2 78 x1.toNatClampNeg) 3) fun e_60 =>
    if e_60.1 = 0 then
      bd1 (f_X12_isClear e_60.2 x1) fun e_70 =>
      ok (zb e_70.1) <|
      some (e_70.1, e_70.2)
    else
      f_X12_clear_66 e_60.2
  else
    f_X12_clear_66 e_46.2
theorem s_X12_clear_45 {x1 : Int32} {z0 : Int32} {M : px_M} {L : px_L} {R : px_R} {e : (Int32 × px_M)} (hS : SR sh R) (hd : 1 ≤ d) (hcu : cu ≤ mc) (hsu : su ≤ ms) (h : f_X12_clear_45 M x1 z0 = some e) (g : Post (some (.int (e.1))) sh (e.2) L R n) : WX RX12 cX12_clear 2 (some .boolean) ("clear", []) d mc ms X (px_QF Post mc ms) 45 [(0, .ref 73), (1, .int x1)] [.int z0, .ref 73] sh M L R n cu su := by
  unfold f_X12_clear_45 at h
  refine wx_iconst (v := 2) dX12_clear_45 (by decide) ?_
  obtain ⟨e_46, k_46, h⟩ := bd1_some h
  refine wx_cVi dX12_clear_46 ml_X12_207 my_X12_bad iv_X12_bad (sc_73 hS) (by decide) (s_X12_bad (d := d - 1) hS (by omega) k_46) rfl (by omega) (by exact Nat.le_of_ble_eq_true rfl) hcu hsu ?_
  refine wx_if_ne (tgt := 66) dX12_clear_49 (by decide) (fun c_49 => ?_) (fun c_49 => ?_)
  · replace h := it_f h c_49
    exact wx_sub (s_X12_clear_66 hS hd hcu hsu h g) px_0
  · replace h := it_t h c_49
    refine wx_aload_n dX12_clear_52 rfl ?_
    refine wx_aload_n dX12_clear_53 rfl ?_
    refine wx_getR dX12_clear_54 fl_X12_22 (sc_73 hS) rfl (rr_73_8 hS) ?_
    refine wx_iload_n dX12_clear_57 rfl ?_
    obtain ⟨w_58, h⟩ := ok_some h
    refine wx_bald dX12_clear_58 (sc_78 hS) (ix_in w_58) ?_
    refine wx_iconst (v := 3) dX12_clear_59 (by decide) ?_
    obtain ⟨e_60, k_60, h⟩ := bd1_some h
    refine wx_cVi dX12_clear_60 ml_X12_207 my_X12_bad iv_X12_bad (sc_73 hS) (by decide) (s_X12_bad (d := d - 1) hS (by omega) k_60) rfl (by omega) (by exact Nat.le_of_ble_eq_true rfl) hcu hsu ?_
    refine wx_if_eq (tgt := 68) dX12_clear_63 (by decide) (fun c_63 => ?_) (fun c_63 => ?_)
    · replace h := it_t h c_63
      refine wx_aload_n dX12_clear_68 rfl ?_
      refine wx_iload_n dX12_clear_69 rfl ?_
      obtain ⟨e_70, k_70, h⟩ := bd1_some h
      refine wx_cVi dX12_clear_70 ml_X12_211 my_X12_isClear iv_X12_isClear (sc_73 hS) (by decide) (s_X12_isClear (d := d - 1) hS (by omega) k_70) rfl (by omega) (by exact Nat.le_of_ble_eq_true rfl) hcu hsu ?_
      obtain ⟨w_73, h⟩ := ok_some h
      refine wx_zret dX12_clear_73 (zb_n w_73) hcu hsu ?_
      obtain rfl := Option.some.inj h
      exact g
    · replace h := it_f h c_63
      exact wx_sub (s_X12_clear_66 hS hd hcu hsu h g) px_0
noncomputable def f_X12_clear_18 (M : px_M) (x1 : Int32) (z0 : Int32) : Option (Int32 × px_M) :=
  bd1 (f_X12_bad M z0 1) fun e_19 =>
  if e_19.1 = 0 then
    bd1 (f_X12_in x1 0 ((e_19.2 73 1) - 2)) fun e_34 =>
    if e_34 = 0 then
      f_X12_clear_45 e_19.2 x1 1
    else
      f_X12_clear_45 e_19.2 x1 0
  else
    f_X12_clear_66 e_19.2
theorem s_X12_clear_18 {x1 : Int32} {z0 : Int32} {M : px_M} {L : px_L} {R : px_R} {e : (Int32 × px_M)} (hS : SR sh R) (hd : 1 ≤ d) (hcu : cu ≤ mc) (hsu : su ≤ ms) (h : f_X12_clear_18 M x1 z0 = some e) (g : Post (some (.int (e.1))) sh (e.2) L R n) : WX RX12 cX12_clear 2 (some .boolean) ("clear", []) d mc ms X (px_QF Post mc ms) 18 [(0, .ref 73), (1, .int x1)] [.int z0, .ref 73] sh M L R n cu su := by
  unfold f_X12_clear_18 at h
  refine wx_iconst (v := 1) dX12_clear_18 (by decide) ?_
  obtain ⟨e_19, k_19, h⟩ := bd1_some h
  refine wx_cVi dX12_clear_19 ml_X12_207 my_X12_bad iv_X12_bad (sc_73 hS) (by decide) (s_X12_bad (d := d - 1) hS (by omega) k_19) rfl (by omega) (by exact Nat.le_of_ble_eq_true rfl) hcu hsu ?_
  refine wx_if_ne (tgt := 66) dX12_clear_22 (by decide) (fun c_22 => ?_) (fun c_22 => ?_)
  · replace h := it_f h c_22
    exact wx_sub (s_X12_clear_66 hS hd hcu hsu h g) px_0
  · replace h := it_t h c_22
    refine wx_aload_n dX12_clear_25 rfl ?_
    refine wx_iload_n dX12_clear_26 rfl ?_
    refine wx_iconst (v := 0) dX12_clear_27 (by decide) ?_
    refine wx_aload_n dX12_clear_28 rfl ?_
    refine wx_getI dX12_clear_29 fl_X12_182 (sc_73 hS) rfl ?_
    refine wx_iconst (v := 2) dX12_clear_32 (by decide) ?_
    refine wx_isub dX12_clear_33 ?_
    obtain ⟨e_34, k_34, h⟩ := bd1_some h
    refine wx_cSi dX12_clear_34 ml_X12_203 my_X12_in sv_X12_in (s_X12_in (d := d - 1) hS (by omega) k_34) rfl (by omega) (by exact Nat.le_of_ble_eq_true rfl) hcu hsu ?_
    refine wx_if_ne (tgt := 44) dX12_clear_37 (by decide) (fun c_37 => ?_) (fun c_37 => ?_)
    · replace h := it_f h c_37
      refine wx_iconst (v := 0) dX12_clear_44 (by decide) ?_
      exact wx_sub (s_X12_clear_45 hS hd hcu hsu h g) (px_s rfl (px_s rfl px_0))
    · replace h := it_t h c_37
      refine wx_iconst (v := 1) dX12_clear_40 (by decide) ?_
      refine wx_goto (tgt := 45) dX12_clear_41 (by decide) ?_
      exact wx_sub (s_X12_clear_45 hS hd hcu hsu h g) (px_s rfl (px_s rfl px_0))
noncomputable def f_X12_clear (M : px_M) (p1 : Int32) : Option (Int32 × px_M) :=
  nm (px_u M 73 0 0) fun M_2 =>
  if (M_2 73 3) = 0 then
    f_X12_clear_18 M_2 p1 1
  else
    f_X12_clear_18 M_2 p1 0
theorem s_X12_clear {d : Nat} {X : Nat × (Nat → Int32)} {sh : px_Sh} {M : px_M} {L : px_L} {R : px_R} {n : Nat} {p1 : Int32} {e : Int32 × px_M} (hS : SR sh R) (hd : 1 ≤ d) (h : f_X12_clear M p1 = some e) : MX yX12_clear cX12_clear 2 (some .boolean) d 0 0 X [.ref 73, .int p1] sh M L R n (px_pu (some (.int e.1)) sh e.2 L R n) := by
  refine MX.of (by decide +kernel) (by exact Nat.le_of_ble_eq_true rfl) ?_
  have hcu : 0 ≤ 0 := Nat.zero_le _
  have hsu : 0 ≤ 0 := Nat.zero_le _
  have g : px_pu (some (.int e.1)) sh e.2 L R n (some (.int e.1)) sh e.2 L R n := ⟨rfl, rfl, rfl, rfl, rfl, rfl⟩
  unfold f_X12_clear at h
  refine wx_aload_n dX12_clear_0 rfl ?_
  refine wx_iconst (v := 0) dX12_clear_1 (by decide) ?_
  refine wx_putI dX12_clear_2 fl_X12_179 (sc_73 hS) (Or.inl rfl) rfl ⟨rfl, rfl⟩ ?_
  refine wx_namM (fun M_2 q_2 => ?_)
  replace h := nm_at h q_2
  refine wx_aload_n dX12_clear_5 rfl ?_
  refine wx_aload_n dX12_clear_6 rfl ?_
  refine wx_getI dX12_clear_7 fl_X12_196 (sc_73 hS) rfl ?_
  refine wx_if_ne (tgt := 17) dX12_clear_10 (by decide) (fun c_10 => ?_) (fun c_10 => ?_)
  · replace h := it_f h c_10
    refine wx_iconst (v := 0) dX12_clear_17 (by decide) ?_
    exact wx_sub (s_X12_clear_18 hS hd hcu hsu h g) (px_s rfl (px_s rfl px_0))
  · replace h := it_t h c_10
    refine wx_iconst (v := 1) dX12_clear_13 (by decide) ?_
    refine wx_goto (tgt := 18) dX12_clear_14 (by decide) ?_
    exact wx_sub (s_X12_clear_18 hS hd hcu hsu h g) (px_s rfl (px_s rfl px_0))
noncomputable def f_X12_open_52 (M : px_M) : Option (Int32 × px_M) :=
  some (0, M)
theorem s_X12_open_52 {M : px_M} {L : px_L} {R : px_R} {e : (Int32 × px_M)} (hS : SR sh R) (hd : 1 ≤ d) (hcu : cu ≤ mc) (hsu : su ≤ ms) (h : f_X12_open_52 M = some e) (g : Post (some (.int (e.1))) sh (e.2) L R n) : WX RX12 cX12_open 2 (some .int) ("open", []) d mc ms X (px_QF Post mc ms) 52 [] [] sh M L R n cu su := by
  unfold f_X12_open_52 at h
  refine wx_iconst (v := 0) dX12_open_52 (by decide) ?_
  refine wx_iret dX12_open_53 hcu hsu ?_
  obtain rfl := Option.some.inj h
  exact g
noncomputable def f_X12_open_45 (M : px_M) (x1 : Int32) (z0 : Int32) : Option (Int32 × px_M) :=
  bd1 (f_X12_bad M z0 2) fun e_46 =>
  if e_46.1 = 0 then
    ok (ix x1 8) <|
    if (e_46.2 78 x1.toNatClampNeg) = 0 then
      bd1 (f_X12_isClear e_46.2 x1) fun e_67 =>
      if e_67.1 = 0 then
        some (0, e_67.2)
      else
        ok (ix x1 8) <|
        nm (px_u e_67.2 78 x1.toNatClampNeg 1) fun M_81 =>
        some (1, M_81)
    else
      some ((-1), e_46.2)
  else
    f_X12_open_52 e_46.2
theorem s_X12_open_45 {x1 : Int32} {z0 : Int32} {M : px_M} {L : px_L} {R : px_R} {e : (Int32 × px_M)} (hS : SR sh R) (hd : 1 ≤ d) (hcu : cu ≤ mc) (hsu : su ≤ ms) (h : f_X12_open_45 M x1 z0 = some e) (g : Post (some (.int (e.1))) sh (e.2) L R n) : WX RX12 cX12_open 2 (some .int) ("open", []) d mc ms X (px_QF Post mc ms) 45 [(0, .ref 73), (1, .int x1)] [.int z0, .ref 73] sh M L R n cu su := by
  unfold f_X12_open_45 at h
  refine wx_iconst (v := 2) dX12_open_45 (by decide) ?_
  obtain ⟨e_46, k_46, h⟩ := bd1_some h
  refine wx_cVi dX12_open_46 ml_X12_207 my_X12_bad iv_X12_bad (sc_73 hS) (by decide) (s_X12_bad (d := d - 1) hS (by omega) k_46) rfl (by omega) (by exact Nat.le_of_ble_eq_true rfl) hcu hsu ?_
  refine wx_if_eq (tgt := 54) dX12_open_49 (by decide) (fun c_49 => ?_) (fun c_49 => ?_)
  · replace h := it_t h c_49
    refine wx_aload_n dX12_open_54 rfl ?_
    refine wx_getR dX12_open_55 fl_X12_22 (sc_73 hS) rfl (rr_73_8 hS) ?_
    refine wx_iload_n dX12_open_58 rfl ?_
    obtain ⟨w_59, h⟩ := ok_some h
    refine wx_bald dX12_open_59 (sc_78 hS) (ix_in w_59) ?_
    refine wx_if_eq (tgt := 65) dX12_open_60 (by decide) (fun c_60 => ?_) (fun c_60 => ?_)
    · replace h := it_t h c_60
      refine wx_aload_n dX12_open_65 rfl ?_
      refine wx_iload_n dX12_open_66 rfl ?_
      obtain ⟨e_67, k_67, h⟩ := bd1_some h
      refine wx_cVi dX12_open_67 ml_X12_211 my_X12_isClear iv_X12_isClear (sc_73 hS) (by decide) (s_X12_isClear (d := d - 1) hS (by omega) k_67) rfl (by omega) (by exact Nat.le_of_ble_eq_true rfl) hcu hsu ?_
      refine wx_if_ne (tgt := 75) dX12_open_70 (by decide) (fun c_70 => ?_) (fun c_70 => ?_)
      · replace h := it_f h c_70
        refine wx_aload_n dX12_open_75 rfl ?_
        refine wx_getR dX12_open_76 fl_X12_22 (sc_73 hS) rfl (rr_73_8 hS) ?_
        refine wx_iload_n dX12_open_79 rfl ?_
        refine wx_iconst (v := 1) dX12_open_80 (by decide) ?_
        obtain ⟨w_81, h⟩ := ok_some h
        refine wx_bast dX12_open_81 (sc_78 hS) (ix_in w_81) rfl ?_
        refine wx_namM (fun M_81 q_81 => ?_)
        replace h := nm_at h q_81
        refine wx_iconst (v := 1) dX12_open_82 (by decide) ?_
        refine wx_iret dX12_open_83 hcu hsu ?_
        obtain rfl := Option.some.inj h
        exact g
      · replace h := it_t h c_70
        refine wx_iconst (v := 0) dX12_open_73 (by decide) ?_
        refine wx_iret dX12_open_74 hcu hsu ?_
        obtain rfl := Option.some.inj h
        exact g
    · replace h := it_f h c_60
      refine wx_iconst (v := (-1)) dX12_open_63 (by decide) ?_
      refine wx_iret dX12_open_64 hcu hsu ?_
      obtain rfl := Option.some.inj h
      exact g
  · replace h := it_f h c_49
    exact wx_sub (s_X12_open_52 hS hd hcu hsu h g) px_0
noncomputable def f_X12_open_18 (M : px_M) (x1 : Int32) (z0 : Int32) : Option (Int32 × px_M) :=
  bd1 (f_X12_bad M z0 1) fun e_19 =>
  if e_19.1 = 0 then
    bd1 (f_X12_in x1 0 ((e_19.2 73 1) - 2)) fun e_34 =>
    if e_34 = 0 then
      f_X12_open_45 e_19.2 x1 1
    else
      f_X12_open_45 e_19.2 x1 0
  else
    f_X12_open_52 e_19.2
theorem s_X12_open_18 {x1 : Int32} {z0 : Int32} {M : px_M} {L : px_L} {R : px_R} {e : (Int32 × px_M)} (hS : SR sh R) (hd : 1 ≤ d) (hcu : cu ≤ mc) (hsu : su ≤ ms) (h : f_X12_open_18 M x1 z0 = some e) (g : Post (some (.int (e.1))) sh (e.2) L R n) : WX RX12 cX12_open 2 (some .int) ("open", []) d mc ms X (px_QF Post mc ms) 18 [(0, .ref 73), (1, .int x1)] [.int z0, .ref 73] sh M L R n cu su := by
  unfold f_X12_open_18 at h
  refine wx_iconst (v := 1) dX12_open_18 (by decide) ?_
  obtain ⟨e_19, k_19, h⟩ := bd1_some h
  refine wx_cVi dX12_open_19 ml_X12_207 my_X12_bad iv_X12_bad (sc_73 hS) (by decide) (s_X12_bad (d := d - 1) hS (by omega) k_19) rfl (by omega) (by exact Nat.le_of_ble_eq_true rfl) hcu hsu ?_
  refine wx_if_ne (tgt := 52) dX12_open_22 (by decide) (fun c_22 => ?_) (fun c_22 => ?_)
  · replace h := it_f h c_22
    exact wx_sub (s_X12_open_52 hS hd hcu hsu h g) px_0
  · replace h := it_t h c_22
    refine wx_aload_n dX12_open_25 rfl ?_
    refine wx_iload_n dX12_open_26 rfl ?_
    refine wx_iconst (v := 0) dX12_open_27 (by decide) ?_
    refine wx_aload_n dX12_open_28 rfl ?_
    refine wx_getI dX12_open_29 fl_X12_182 (sc_73 hS) rfl ?_
    refine wx_iconst (v := 2) dX12_open_32 (by decide) ?_
    refine wx_isub dX12_open_33 ?_
    obtain ⟨e_34, k_34, h⟩ := bd1_some h
    refine wx_cSi dX12_open_34 ml_X12_203 my_X12_in sv_X12_in (s_X12_in (d := d - 1) hS (by omega) k_34) rfl (by omega) (by exact Nat.le_of_ble_eq_true rfl) hcu hsu ?_
    refine wx_if_ne (tgt := 44) dX12_open_37 (by decide) (fun c_37 => ?_) (fun c_37 => ?_)
    · replace h := it_f h c_37
      refine wx_iconst (v := 0) dX12_open_44 (by decide) ?_
      exact wx_sub (s_X12_open_45 hS hd hcu hsu h g) (px_s rfl (px_s rfl px_0))
    · replace h := it_t h c_37
      refine wx_iconst (v := 1) dX12_open_40 (by decide) ?_
      refine wx_goto (tgt := 45) dX12_open_41 (by decide) ?_
      exact wx_sub (s_X12_open_45 hS hd hcu hsu h g) (px_s rfl (px_s rfl px_0))
noncomputable def f_X12_open (M : px_M) (p1 : Int32) : Option (Int32 × px_M) :=
  nm (px_u M 73 0 0) fun M_2 =>
  if (M_2 73 3) = 0 then
    f_X12_open_18 M_2 p1 1
  else
    f_X12_open_18 M_2 p1 0
theorem s_X12_open {d : Nat} {X : Nat × (Nat → Int32)} {sh : px_Sh} {M : px_M} {L : px_L} {R : px_R} {n : Nat} {p1 : Int32} {e : Int32 × px_M} (hS : SR sh R) (hd : 1 ≤ d) (h : f_X12_open M p1 = some e) : MX yX12_open cX12_open 2 (some .int) d 0 0 X [.ref 73, .int p1] sh M L R n (px_pu (some (.int e.1)) sh e.2 L R n) := by
  refine MX.of (by decide +kernel) (by exact Nat.le_of_ble_eq_true rfl) ?_
  have hcu : 0 ≤ 0 := Nat.zero_le _
  have hsu : 0 ≤ 0 := Nat.zero_le _
  have g : px_pu (some (.int e.1)) sh e.2 L R n (some (.int e.1)) sh e.2 L R n := ⟨rfl, rfl, rfl, rfl, rfl, rfl⟩
  unfold f_X12_open at h
  refine wx_aload_n dX12_open_0 rfl ?_
  refine wx_iconst (v := 0) dX12_open_1 (by decide) ?_
  refine wx_putI dX12_open_2 fl_X12_179 (sc_73 hS) (Or.inl rfl) rfl ⟨rfl, rfl⟩ ?_
  refine wx_namM (fun M_2 q_2 => ?_)
  replace h := nm_at h q_2
  refine wx_aload_n dX12_open_5 rfl ?_
  refine wx_aload_n dX12_open_6 rfl ?_
  refine wx_getI dX12_open_7 fl_X12_196 (sc_73 hS) rfl ?_
  refine wx_if_ne (tgt := 17) dX12_open_10 (by decide) (fun c_10 => ?_) (fun c_10 => ?_)
  · replace h := it_f h c_10
    refine wx_iconst (v := 0) dX12_open_17 (by decide) ?_
    exact wx_sub (s_X12_open_18 hS hd hcu hsu h g) (px_s rfl (px_s rfl px_0))
  · replace h := it_t h c_10
    refine wx_iconst (v := 1) dX12_open_13 (by decide) ?_
    refine wx_goto (tgt := 18) dX12_open_14 (by decide) ?_
    exact wx_sub (s_X12_open_18 hS hd hcu hsu h g) (px_s rfl (px_s rfl px_0))
end LIFT
