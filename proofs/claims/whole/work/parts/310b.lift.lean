/-! the reference -/
section LIFT
variable {d mc ms : Nat} {X : Nat × (Nat → Int32)} {Post : px_Post} {sh : px_Sh} {n cu su : Nat}
noncomputable def o_X12_countOrders_92 (r_X12_countOrders : px_M → Int32 → Option (Int32 × px_M)) (M : px_M) (x1 : Int32) (x2 : Int32) (x3 : Int32) (x4 : Int32) (x5 : Int32) : Option ((Int32 × Int32 × Int32 × Int32 × px_M) ⊕ (Int32 × Int32 × px_M)) :=
  some (.inl (x2, x3, x4, (x5 + 1), M))
theorem so_X12_countOrders_92 {dr : Nat} {r_X12_countOrders : px_M → Int32 → Option (Int32 × px_M)} {x1 : Int32} {x2 : Int32} {x3 : Int32} {x4 : Int32} {x5 : Int32} {M : px_M} {L : px_L} {R : px_R} {e : ((Int32 × Int32 × Int32 × Int32 × px_M) ⊕ (Int32 × Int32 × px_M))} (h_X12_countOrders : ∀ {d : Nat} {X : Nat × (Nat → Int32)} {sh : px_Sh} {M : px_M} {L : px_L} {R : px_R} {n : Nat} {p1 : Int32} {e : Int32 × px_M}, SR sh R → dr ≤ d → r_X12_countOrders M p1 = some e → MX yX12_countOrders cX12_countOrders 7 (some .int) d 0 0 X [.ref 73, .int p1] sh M L R n (px_pu (some (.int e.1)) sh e.2 L R n)) (hS : SR sh R) (hd : 1 ≤ d) (hdr : dr + 1 ≤ d) (hcu : cu ≤ mc) (hsu : su ≤ ms) (h : o_X12_countOrders_92 r_X12_countOrders M x1 x2 x3 x4 x5 = some e) (g : (sE (fun a => WX RX12 cX12_countOrders 7 (some .int) ("countOrders", []) d mc ms X (px_QF Post mc ms) 10 [(0, .ref 73), (1, .int x1), (2, .int a.1), (3, .int a.2.1), (4, .int a.2.2.1), (5, .int a.2.2.2.1)] [] sh (a.2.2.2.2) L R n cu su) (fun t => WX RX12 cX12_countOrders 7 (some .int) ("countOrders", []) d mc ms X (px_QF Post mc ms) 98 [(2, .int t.1), (4, .int t.2.1)] [] sh (t.2.2) L R n cu su)) e) : WX RX12 cX12_countOrders 7 (some .int) ("countOrders", []) d mc ms X (px_QF Post mc ms) 92 [(0, .ref 73), (1, .int x1), (2, .int x2), (3, .int x3), (4, .int x4), (5, .int x5)] [] sh M L R n cu su := by
  unfold o_X12_countOrders_92 at h
  refine wx_iinc (lv' := [(5, _), (0, _), (1, _), (2, _), (3, _), (4, _)]) dX12_countOrders_92 rfl (i_1 _) (by decide) rfl ?_
  refine wx_goto (tgt := 10) dX12_countOrders_95 (by decide) ?_
  obtain rfl := Option.some.inj h
  replace g := sE_l g
  exact wx_sub g (px_s rfl (px_s rfl (px_s rfl (px_s rfl (px_s rfl (px_s rfl px_0))))))
noncomputable def o_X12_countOrders_87 (r_X12_countOrders : px_M → Int32 → Option (Int32 × px_M)) (M : px_M) (x1 : Int32) (x2 : Int32) (x3 : Int32) (x4 : Int32) (x5 : Int32) (x6 : Int32) : Option ((Int32 × Int32 × Int32 × Int32 × px_M) ⊕ (Int32 × Int32 × px_M)) :=
  nm (x2 + x6) fun v_91 =>
  o_X12_countOrders_92 r_X12_countOrders M x1 v_91 x3 x4 x5
theorem so_X12_countOrders_87 {dr : Nat} {r_X12_countOrders : px_M → Int32 → Option (Int32 × px_M)} {x1 : Int32} {x2 : Int32} {x3 : Int32} {x4 : Int32} {x5 : Int32} {x6 : Int32} {M : px_M} {L : px_L} {R : px_R} {e : ((Int32 × Int32 × Int32 × Int32 × px_M) ⊕ (Int32 × Int32 × px_M))} (h_X12_countOrders : ∀ {d : Nat} {X : Nat × (Nat → Int32)} {sh : px_Sh} {M : px_M} {L : px_L} {R : px_R} {n : Nat} {p1 : Int32} {e : Int32 × px_M}, SR sh R → dr ≤ d → r_X12_countOrders M p1 = some e → MX yX12_countOrders cX12_countOrders 7 (some .int) d 0 0 X [.ref 73, .int p1] sh M L R n (px_pu (some (.int e.1)) sh e.2 L R n)) (hS : SR sh R) (hd : 1 ≤ d) (hdr : dr + 1 ≤ d) (hcu : cu ≤ mc) (hsu : su ≤ ms) (h : o_X12_countOrders_87 r_X12_countOrders M x1 x2 x3 x4 x5 x6 = some e) (g : (sE (fun a => WX RX12 cX12_countOrders 7 (some .int) ("countOrders", []) d mc ms X (px_QF Post mc ms) 10 [(0, .ref 73), (1, .int x1), (2, .int a.1), (3, .int a.2.1), (4, .int a.2.2.1), (5, .int a.2.2.2.1)] [] sh (a.2.2.2.2) L R n cu su) (fun t => WX RX12 cX12_countOrders 7 (some .int) ("countOrders", []) d mc ms X (px_QF Post mc ms) 98 [(2, .int t.1), (4, .int t.2.1)] [] sh (t.2.2) L R n cu su)) e) : WX RX12 cX12_countOrders 7 (some .int) ("countOrders", []) d mc ms X (px_QF Post mc ms) 87 [(0, .ref 73), (1, .int x1), (2, .int x2), (3, .int x3), (4, .int x4), (5, .int x5), (6, .int x6)] [] sh M L R n cu su := by
  unfold o_X12_countOrders_87 at h
  refine wx_iload_n dX12_countOrders_87 rfl ?_
  refine wx_iload dX12_countOrders_88 rfl ?_
  refine wx_iadd dX12_countOrders_90 ?_
  refine wx_nami (fun v_91 q_91 => ?_)
  replace h := nm_at h q_91
  refine wx_istore_n (lv' := [(2, _), (0, _), (1, _), (3, _), (4, _), (5, _), (6, _)]) dX12_countOrders_91 (by decide) rfl ?_
  exact wx_sub (so_X12_countOrders_92 h_X12_countOrders hS hd hdr hcu hsu h g) (px_s rfl (px_s rfl (px_s rfl (px_s rfl (px_s rfl (px_s rfl px_0))))))
noncomputable def o_X12_countOrders_10 (r_X12_countOrders : px_M → Int32 → Option (Int32 × px_M)) (M : px_M) (x1 : Int32) (x2 : Int32) (x3 : Int32) (x4 : Int32) (x5 : Int32) : Option ((Int32 × Int32 × Int32 × Int32 × px_M) ⊕ (Int32 × Int32 × px_M)) :=
  if (M 73 1) ≤ (x5 + 1) then
    some (.inr (x2, x4, M))
  else
    ok (ix x5 8) <|
    if (M 78 x5.toNatClampNeg) = 0 then
      bd1 (f_X12_isClear M x5) fun e_40 =>
      if e_40.1 = 0 then
        o_X12_countOrders_92 r_X12_countOrders e_40.2 x1 x2 x3 (x4 + 1) x5
      else
        ok (ix x5 8) <|
        nm (px_u e_40.2 78 x5.toNatClampNeg 1) fun M_56 =>
        bd1 (r_X12_countOrders M_56 (x1 + 1)) fun e_61 =>
        ok (ix x5 8) <|
        nm (px_u e_61.2 78 x5.toNatClampNeg 0) fun M_73 =>
        if e_61.1 ≤ 0 then
          o_X12_countOrders_87 r_X12_countOrders M_73 x1 x2 x3 (x4 + 1) x5 e_61.1
        else
          if x3 = (-1) then
            o_X12_countOrders_87 r_X12_countOrders M_73 x1 x2 x5 (x4 + 1) x5 e_61.1
          else
            o_X12_countOrders_87 r_X12_countOrders M_73 x1 x2 x3 (x4 + 1) x5 e_61.1
    else
      o_X12_countOrders_92 r_X12_countOrders M x1 x2 x3 x4 x5
theorem so_X12_countOrders_10b {dr : Nat} {r_X12_countOrders : px_M → Int32 → Option (Int32 × px_M)} {x1 : Int32} {x2 : Int32} {x3 : Int32} {x4 : Int32} {x5 : Int32} {M : px_M} {L : px_L} {R : px_R} {e : ((Int32 × Int32 × Int32 × Int32 × px_M) ⊕ (Int32 × Int32 × px_M))} (h_X12_countOrders : ∀ {d : Nat} {X : Nat × (Nat → Int32)} {sh : px_Sh} {M : px_M} {L : px_L} {R : px_R} {n : Nat} {p1 : Int32} {e : Int32 × px_M}, SR sh R → dr ≤ d → r_X12_countOrders M p1 = some e → MX yX12_countOrders cX12_countOrders 7 (some .int) d 0 0 X [.ref 73, .int p1] sh M L R n (px_pu (some (.int e.1)) sh e.2 L R n)) (hS : SR sh R) (hd : 1 ≤ d) (hdr : dr + 1 ≤ d) (hcu : cu ≤ mc) (hsu : su ≤ ms) (h : o_X12_countOrders_10 r_X12_countOrders M x1 x2 x3 x4 x5 = some e) (g : (sE (fun a => WX RX12 cX12_countOrders 7 (some .int) ("countOrders", []) d mc ms X (px_QF Post mc ms) 10 [(0, .ref 73), (1, .int x1), (2, .int a.1), (3, .int a.2.1), (4, .int a.2.2.1), (5, .int a.2.2.2.1)] [] sh (a.2.2.2.2) L R n cu su) (fun t => WX RX12 cX12_countOrders 7 (some .int) ("countOrders", []) d mc ms X (px_QF Post mc ms) 98 [(2, .int t.1), (4, .int t.2.1)] [] sh (t.2.2) L R n cu su)) e) : WX RX12 cX12_countOrders 7 (some .int) ("countOrders", []) d mc ms X (px_QF Post mc ms) 10 [(0, .ref 73), (1, .int x1), (2, .int x2), (3, .int x3), (4, .int x4), (5, .int x5)] [] sh M L R n cu su := by
  unfold o_X12_countOrders_10 at h
  refine wx_iload dX12_countOrders_10 rfl ?_
  refine wx_iconst (v := 1) dX12_countOrders_12 (by decide) ?_
  refine wx_iadd dX12_countOrders_13 ?_
  refine wx_aload_n dX12_countOrders_14 rfl ?_
  refine wx_getI dX12_countOrders_15 fl_X12_182 (sc_73 hS) rfl ?_
  refine wx_icmp_ge (tgt := 98) dX12_countOrders_18 (by decide) (fun c_18 => ?_) (fun c_18 => ?_)
  · replace h := it_t h c_18
    obtain rfl := Option.some.inj h
    replace g := sE_r g
    exact wx_sub g (px_s rfl (px_s rfl px_0))
  · replace h := it_f h c_18
    refine wx_aload_n dX12_countOrders_21 rfl ?_
    refine wx_getR dX12_countOrders_22 fl_X12_22 (sc_73 hS) rfl (rr_73_8 hS) ?_
    refine wx_iload dX12_countOrders_25 rfl ?_
    obtain ⟨w_27, h⟩ := ok_some h
    refine wx_bald dX12_countOrders_27 (sc_78 hS) (ix_in w_27) ?_
    refine wx_if_eq (tgt := 34) dX12_countOrders_28 (by decide) (fun c_28 => ?_) (fun c_28 => ?_)
    · replace h := it_t h c_28
      refine wx_iinc (lv' := [(4, _), (0, _), (1, _), (2, _), (3, _), (5, _)]) dX12_countOrders_34 rfl (i_1 _) (by decide) rfl ?_
      refine wx_aload_n dX12_countOrders_37 rfl ?_
      refine wx_iload dX12_countOrders_38 rfl ?_
      obtain ⟨e_40, k_40, h⟩ := bd1_some h
      refine wx_cVi dX12_countOrders_40 ml_X12_211 my_X12_isClear iv_X12_isClear (sc_73 hS) (by decide) (s_X12_isClear (d := d - 1) hS (by omega) k_40) rfl (by omega) (by exact Nat.le_of_ble_eq_true rfl) hcu hsu ?_
      refine wx_if_ne (tgt := 49) dX12_countOrders_43 (by decide) (fun c_43 => ?_) (fun c_43 => ?_)
      · replace h := it_f h c_43
        refine wx_aload_n dX12_countOrders_49 rfl ?_
        refine wx_getR dX12_countOrders_50 fl_X12_22 (sc_73 hS) rfl (rr_73_8 hS) ?_
        refine wx_iload dX12_countOrders_53 rfl ?_
        refine wx_iconst (v := 1) dX12_countOrders_55 (by decide) ?_
        obtain ⟨w_56, h⟩ := ok_some h
        refine wx_bast dX12_countOrders_56 (sc_78 hS) (ix_in w_56) rfl ?_
        refine wx_namM (fun M_56 q_56 => ?_)
        replace h := nm_at h q_56
        refine wx_aload_n dX12_countOrders_57 rfl ?_
        refine wx_iload_n dX12_countOrders_58 rfl ?_
        refine wx_iconst (v := 1) dX12_countOrders_59 (by decide) ?_
        refine wx_iadd dX12_countOrders_60 ?_
        obtain ⟨e_61, k_61, h⟩ := bd1_some h
        refine wx_cVi dX12_countOrders_61 ml_X12_215 my_X12_countOrders iv_X12_countOrders (sc_73 hS) (by decide) (h_X12_countOrders (d := d - 1) hS (by omega) k_61) rfl (by omega) (by exact Nat.le_of_ble_eq_true rfl) hcu hsu ?_
        refine wx_istore (lv' := [(6, _), (4, _), (0, _), (1, _), (2, _), (3, _), (5, _)]) dX12_countOrders_64 (by decide) rfl ?_
        refine wx_aload_n dX12_countOrders_66 rfl ?_
        refine wx_getR dX12_countOrders_67 fl_X12_22 (sc_73 hS) rfl (rr_73_8 hS) ?_
        refine wx_iload dX12_countOrders_70 rfl ?_
        refine wx_iconst (v := 0) dX12_countOrders_72 (by decide) ?_
        obtain ⟨w_73, h⟩ := ok_some h
        refine wx_bast dX12_countOrders_73 (sc_78 hS) (ix_in w_73) rfl ?_
        refine wx_namM (fun M_73 q_73 => ?_)
        replace h := nm_at h q_73
        refine wx_iload dX12_countOrders_74 rfl ?_
        refine wx_if_le (tgt := 87) dX12_countOrders_76 (by decide) (fun c_76 => ?_) (fun c_76 => ?_)
        · replace h := it_t h c_76
          exact wx_sub (so_X12_countOrders_87 h_X12_countOrders hS hd hdr hcu hsu h g) (px_s rfl (px_s rfl (px_s rfl (px_s rfl (px_s rfl (px_s rfl (px_s rfl px_0)))))))
        · replace h := it_f h c_76
          refine wx_iload_n dX12_countOrders_79 rfl ?_
          refine wx_iconst (v := (-1)) dX12_countOrders_80 (by decide) ?_
          refine wx_icmp_ne (tgt := 87) dX12_countOrders_81 (by decide) (fun c_81 => ?_) (fun c_81 => ?_)
          · replace h := it_f h c_81
            exact wx_sub (so_X12_countOrders_87 h_X12_countOrders hS hd hdr hcu hsu h g) (px_s rfl (px_s rfl (px_s rfl (px_s rfl (px_s rfl (px_s rfl (px_s rfl px_0)))))))
          · replace h := it_t h c_81
            refine wx_iload dX12_countOrders_84 rfl ?_
            refine wx_istore_n (lv' := [(3, _), (6, _), (4, _), (0, _), (1, _), (2, _), (5, _)]) dX12_countOrders_86 (by decide) rfl ?_
            exact wx_sub (so_X12_countOrders_87 h_X12_countOrders hS hd hdr hcu hsu h g) (px_s rfl (px_s rfl (px_s rfl (px_s rfl (px_s rfl (px_s rfl (px_s rfl px_0)))))))
      · replace h := it_t h c_43
        refine wx_goto (tgt := 92) dX12_countOrders_46 (by decide) ?_
        exact wx_sub (so_X12_countOrders_92 h_X12_countOrders hS hd hdr hcu hsu h g) (px_s rfl (px_s rfl (px_s rfl (px_s rfl (px_s rfl (px_s rfl px_0))))))
    · replace h := it_f h c_28
      refine wx_goto (tgt := 92) dX12_countOrders_31 (by decide) ?_
      exact wx_sub (so_X12_countOrders_92 h_X12_countOrders hS hd hdr hcu hsu h g) (px_s rfl (px_s rfl (px_s rfl (px_s rfl (px_s rfl (px_s rfl px_0))))))
theorem so_X12_countOrders_10 {dr : Nat} {r_X12_countOrders : px_M → Int32 → Option (Int32 × px_M)} {x1 : Int32} {x2 : Int32} {x3 : Int32} {x4 : Int32} {x5 : Int32} {M : px_M} {L : px_L} {R : px_R} {e : (Int32 × Int32 × px_M)} (h_X12_countOrders : ∀ {d : Nat} {X : Nat × (Nat → Int32)} {sh : px_Sh} {M : px_M} {L : px_L} {R : px_R} {n : Nat} {p1 : Int32} {e : Int32 × px_M}, SR sh R → dr ≤ d → r_X12_countOrders M p1 = some e → MX yX12_countOrders cX12_countOrders 7 (some .int) d 0 0 X [.ref 73, .int p1] sh M L R n (px_pu (some (.int e.1)) sh e.2 L R n)) (hS : SR sh R) (hd : 1 ≤ d) (hdr : dr + 1 ≤ d) (hcu : cu ≤ mc) (hsu : su ≤ ms) (h : lpf (fun a : Int32 × Int32 × Int32 × Int32 × px_M => o_X12_countOrders_10 r_X12_countOrders a.2.2.2.2 x1 a.1 a.2.1 a.2.2.1 a.2.2.2.1) (x2, x3, x4, x5, M) = some e) (g : WX RX12 cX12_countOrders 7 (some .int) ("countOrders", []) d mc ms X (px_QF Post mc ms) 98 [(2, .int e.1), (4, .int e.2.1)] [] sh (e.2.2) L R n cu su) : WX RX12 cX12_countOrders 7 (some .int) ("countOrders", []) d mc ms X (px_QF Post mc ms) 10 [(0, .ref 73), (1, .int x1), (2, .int x2), (3, .int x3), (4, .int x4), (5, .int x5)] [] sh M L R n cu su := by
  have key := lpf_wp (P := (fun a => WX RX12 cX12_countOrders 7 (some .int) ("countOrders", []) d mc ms X (px_QF Post mc ms) 10 [(0, .ref 73), (1, .int x1), (2, .int a.1), (3, .int a.2.1), (4, .int a.2.2.1), (5, .int a.2.2.2.1)] [] sh (a.2.2.2.2) L R n cu su)) (G := (fun t => WX RX12 cX12_countOrders 7 (some .int) ("countOrders", []) d mc ms X (px_QF Post mc ms) 98 [(2, .int t.1), (4, .int t.2.1)] [] sh (t.2.2) L R n cu su)) (fun a r h g => so_X12_countOrders_10b (x1 := x1) (x2 := a.1) (x3 := a.2.1) (x4 := a.2.2.1) (x5 := a.2.2.2.1) (M := a.2.2.2.2) (L := L) (R := R) h_X12_countOrders hS hd hdr hcu hsu h g) (a := (x2, x3, x4, x5, M)) h g
  exact key
noncomputable def o_X12_countOrders (r_X12_countOrders : px_M → Int32 → Option (Int32 × px_M)) (M : px_M) (p1 : Int32) : Option (Int32 × px_M) :=
  bd1 (lpf (fun a : Int32 × Int32 × Int32 × Int32 × px_M => o_X12_countOrders_10 r_X12_countOrders a.2.2.2.2 p1 a.1 a.2.1 a.2.2.1 a.2.2.2.1) (0, (-1), 0, 0, M)) fun e_10 =>
  if e_10.2.1 = 0 then
    some (1, e_10.2.2)
  else
    some (e_10.1, e_10.2.2)
theorem so_X12_countOrders {dr : Nat} {r_X12_countOrders : px_M → Int32 → Option (Int32 × px_M)} {d : Nat} {X : Nat × (Nat → Int32)} {sh : px_Sh} {M : px_M} {L : px_L} {R : px_R} {n : Nat} {p1 : Int32} {e : Int32 × px_M} (h_X12_countOrders : ∀ {d : Nat} {X : Nat × (Nat → Int32)} {sh : px_Sh} {M : px_M} {L : px_L} {R : px_R} {n : Nat} {p1 : Int32} {e : Int32 × px_M}, SR sh R → dr ≤ d → r_X12_countOrders M p1 = some e → MX yX12_countOrders cX12_countOrders 7 (some .int) d 0 0 X [.ref 73, .int p1] sh M L R n (px_pu (some (.int e.1)) sh e.2 L R n)) (hS : SR sh R) (hd : 1 ≤ d) (hdr : dr + 1 ≤ d) (h : o_X12_countOrders r_X12_countOrders M p1 = some e) : MX yX12_countOrders cX12_countOrders 7 (some .int) d 0 0 X [.ref 73, .int p1] sh M L R n (px_pu (some (.int e.1)) sh e.2 L R n) := by
  refine MX.of (by decide +kernel) (by exact Nat.le_of_ble_eq_true rfl) ?_
  have hcu : 0 ≤ 0 := Nat.zero_le _
  have hsu : 0 ≤ 0 := Nat.zero_le _
  have g : px_pu (some (.int e.1)) sh e.2 L R n (some (.int e.1)) sh e.2 L R n := ⟨rfl, rfl, rfl, rfl, rfl, rfl⟩
  unfold o_X12_countOrders at h
  refine wx_iconst (v := 0) dX12_countOrders_0 (by decide) ?_
  refine wx_istore_n (lv' := [(2, _), (0, _), (1, _)]) dX12_countOrders_1 (by decide) rfl ?_
  refine wx_iconst (v := (-1)) dX12_countOrders_2 (by decide) ?_
  refine wx_istore_n (lv' := [(3, _), (2, _), (0, _), (1, _)]) dX12_countOrders_3 (by decide) rfl ?_
  refine wx_iconst (v := 0) dX12_countOrders_4 (by decide) ?_
  refine wx_istore (lv' := [(4, _), (3, _), (2, _), (0, _), (1, _)]) dX12_countOrders_5 (by decide) rfl ?_
  refine wx_iconst (v := 0) dX12_countOrders_7 (by decide) ?_
  refine wx_istore (lv' := [(5, _), (4, _), (3, _), (2, _), (0, _), (1, _)]) dX12_countOrders_8 (by decide) rfl ?_
  obtain ⟨e_10, k_10, h⟩ := bd1_some h
  refine wx_sub (so_X12_countOrders_10 h_X12_countOrders hS hd hdr hcu hsu k_10 ?_) (px_s rfl (px_s rfl (px_s rfl (px_s rfl (px_s rfl (px_s rfl px_0))))))
  refine wx_iload dX12_countOrders_98 rfl ?_
  refine wx_if_ne (tgt := 105) dX12_countOrders_100 (by decide) (fun c_100 => ?_) (fun c_100 => ?_)
  · replace h := it_f h c_100
    refine wx_iload_n dX12_countOrders_105 rfl ?_
    refine wx_iret dX12_countOrders_106 hcu hsu ?_
    obtain rfl := Option.some.inj h
    exact g
  · replace h := it_t h c_100
    refine wx_iconst (v := 1) dX12_countOrders_103 (by decide) ?_
    refine wx_iret dX12_countOrders_104 hcu hsu ?_
    obtain rfl := Option.some.inj h
    exact g
noncomputable def k_X12_countOrders : Nat → px_M → Int32 → Option (Int32 × px_M)
  | 0 => fun _ _ => none
  | k + 1 => fun M p1 => o_X12_countOrders (k_X12_countOrders k) M p1
theorem sk_X12_countOrders : ∀ (k : Nat) {d : Nat} {X : Nat × (Nat → Int32)} {sh : px_Sh} {M : px_M} {L : px_L} {R : px_R} {n : Nat} {p1 : Int32} {e : Int32 × px_M}, SR sh R → 1 + 1 * k ≤ d → k_X12_countOrders k M p1 = some e → MX yX12_countOrders cX12_countOrders 7 (some .int) d 0 0 X [.ref 73, .int p1] sh M L R n (px_pu (some (.int e.1)) sh e.2 L R n)
  | 0, _, _, _, _, _, _, _, _, _, _, _, h => by cases h
  | k + 1, d, X, sh, M, L, R, n, p1, e, hS, hd, h => so_X12_countOrders (dr := 1 + 1 * k) (r_X12_countOrders := k_X12_countOrders k) (fun hS hd h => sk_X12_countOrders k hS hd h) hS (by omega) (by omega) h
noncomputable def f_X12_countOrders (M : px_M) (p1 : Int32) : Option (Int32 × px_M) := k_X12_countOrders 10 M p1
theorem s_X12_countOrders {d : Nat} {X : Nat × (Nat → Int32)} {sh : px_Sh} {M : px_M} {L : px_L} {R : px_R} {n : Nat} {p1 : Int32} {e : Int32 × px_M} (hS : SR sh R) (hd : 11 ≤ d) (h : f_X12_countOrders M p1 = some e) : MX yX12_countOrders cX12_countOrders 7 (some .int) d 0 0 X [.ref 73, .int p1] sh M L R n (px_pu (some (.int e.1)) sh e.2 L R n) := sk_X12_countOrders 10 hS (by omega) h
noncomputable def f_X12_orders_18 (M : px_M) (z0 : Int32) : Option (Int32 × px_M) :=
  bd1 (f_X12_bad M z0 1) fun e_19 =>
  if e_19.1 = 0 then
    bd1 (f_X12_countOrders e_19.2 0) fun e_29 =>
    some (e_29.1, e_29.2)
  else
    some (0, e_19.2)
theorem s_X12_orders_18 {z0 : Int32} {M : px_M} {L : px_L} {R : px_R} {e : (Int32 × px_M)} (hS : SR sh R) (hd : 12 ≤ d) (hcu : cu ≤ mc) (hsu : su ≤ ms) (h : f_X12_orders_18 M z0 = some e) (g : Post (some (.int (e.1))) sh (e.2) L R n) : WX RX12 cX12_orders 1 (some .int) ("orders", []) d mc ms X (px_QF Post mc ms) 18 [(0, .ref 73)] [.int z0, .ref 73] sh M L R n cu su := by
  unfold f_X12_orders_18 at h
  refine wx_iconst (v := 1) dX12_orders_18 (by decide) ?_
  obtain ⟨e_19, k_19, h⟩ := bd1_some h
  refine wx_cVi dX12_orders_19 ml_X12_207 my_X12_bad iv_X12_bad (sc_73 hS) (by decide) (s_X12_bad (d := d - 1) hS (by omega) k_19) rfl (by omega) (by exact Nat.le_of_ble_eq_true rfl) hcu hsu ?_
  refine wx_if_eq (tgt := 27) dX12_orders_22 (by decide) (fun c_22 => ?_) (fun c_22 => ?_)
  · replace h := it_t h c_22
    refine wx_aload_n dX12_orders_27 rfl ?_
    refine wx_iconst (v := 0) dX12_orders_28 (by decide) ?_
    obtain ⟨e_29, k_29, h⟩ := bd1_some h
    refine wx_cVi dX12_orders_29 ml_X12_215 my_X12_countOrders iv_X12_countOrders (sc_73 hS) (by decide) (s_X12_countOrders (d := d - 1) hS (by omega) k_29) rfl (by omega) (by exact Nat.le_of_ble_eq_true rfl) hcu hsu ?_
    refine wx_iret dX12_orders_32 hcu hsu ?_
    obtain rfl := Option.some.inj h
    exact g
  · replace h := it_f h c_22
    refine wx_iconst (v := 0) dX12_orders_25 (by decide) ?_
    refine wx_iret dX12_orders_26 hcu hsu ?_
    obtain rfl := Option.some.inj h
    exact g
noncomputable def f_X12_orders (M : px_M) : Option (Int32 × px_M) :=
  nm (px_u M 73 0 0) fun M_2 =>
  if (M_2 73 3) = 0 then
    f_X12_orders_18 M_2 1
  else
    f_X12_orders_18 M_2 0
theorem s_X12_orders {d : Nat} {X : Nat × (Nat → Int32)} {sh : px_Sh} {M : px_M} {L : px_L} {R : px_R} {n : Nat} {e : Int32 × px_M} (hS : SR sh R) (hd : 12 ≤ d) (h : f_X12_orders M = some e) : MX yX12_orders cX12_orders 1 (some .int) d 0 0 X [.ref 73] sh M L R n (px_pu (some (.int e.1)) sh e.2 L R n) := by
  refine MX.of (by decide +kernel) (by exact Nat.le_of_ble_eq_true rfl) ?_
  have hcu : 0 ≤ 0 := Nat.zero_le _
  have hsu : 0 ≤ 0 := Nat.zero_le _
  have g : px_pu (some (.int e.1)) sh e.2 L R n (some (.int e.1)) sh e.2 L R n := ⟨rfl, rfl, rfl, rfl, rfl, rfl⟩
  unfold f_X12_orders at h
  refine wx_aload_n dX12_orders_0 rfl ?_
  refine wx_iconst (v := 0) dX12_orders_1 (by decide) ?_
  refine wx_putI dX12_orders_2 fl_X12_179 (sc_73 hS) (Or.inl rfl) rfl ⟨rfl, rfl⟩ ?_
  refine wx_namM (fun M_2 q_2 => ?_)
  replace h := nm_at h q_2
  refine wx_aload_n dX12_orders_5 rfl ?_
  refine wx_aload_n dX12_orders_6 rfl ?_
  refine wx_getI dX12_orders_7 fl_X12_196 (sc_73 hS) rfl ?_
  refine wx_if_ne (tgt := 17) dX12_orders_10 (by decide) (fun c_10 => ?_) (fun c_10 => ?_)
  · replace h := it_f h c_10
    refine wx_iconst (v := 0) dX12_orders_17 (by decide) ?_
    exact wx_sub (s_X12_orders_18 hS hd hcu hsu h g) (px_s rfl px_0)
  · replace h := it_t h c_10
    refine wx_iconst (v := 1) dX12_orders_13 (by decide) ?_
    refine wx_goto (tgt := 18) dX12_orders_14 (by decide) ?_
    exact wx_sub (s_X12_orders_18 hS hd hcu hsu h g) (px_s rfl px_0)
noncomputable def f_X12_leads_39 (M : px_M) (x1 : Int32) (z0 : Int32) : Option (Int32 × px_M) :=
  ok (ix x1 8) <|
  nm (px_u M 78 x1.toNatClampNeg 0) fun M_46 =>
  ok (zb z0) <|
  some (z0, M_46)
theorem s_X12_leads_39 {x1 : Int32} {z0 : Int32} {M : px_M} {L : px_L} {R : px_R} {e : (Int32 × px_M)} (hS : SR sh R) (hd : 12 ≤ d) (hcu : cu ≤ mc) (hsu : su ≤ ms) (h : f_X12_leads_39 M x1 z0 = some e) (g : Post (some (.int (e.1))) sh (e.2) L R n) : WX RX12 cX12_leads 3 (some .boolean) ("leads", []) d mc ms X (px_QF Post mc ms) 39 [(0, .ref 73), (1, .int x1)] [.int z0] sh M L R n cu su := by
  unfold f_X12_leads_39 at h
  refine wx_istore_n (lv' := [(2, _), (0, _), (1, _)]) dX12_leads_39 (by decide) rfl ?_
  refine wx_aload_n dX12_leads_40 rfl ?_
  refine wx_getR dX12_leads_41 fl_X12_22 (sc_73 hS) rfl (rr_73_8 hS) ?_
  refine wx_iload_n dX12_leads_44 rfl ?_
  refine wx_iconst (v := 0) dX12_leads_45 (by decide) ?_
  obtain ⟨w_46, h⟩ := ok_some h
  refine wx_bast dX12_leads_46 (sc_78 hS) (ix_in w_46) rfl ?_
  refine wx_namM (fun M_46 q_46 => ?_)
  replace h := nm_at h q_46
  refine wx_iload_n dX12_leads_47 rfl ?_
  obtain ⟨w_48, h⟩ := ok_some h
  refine wx_zret dX12_leads_48 (zb_n w_48) hcu hsu ?_
  obtain rfl := Option.some.inj h
  exact g
noncomputable def f_X12_leads_17 (M : px_M) : Option (Int32 × px_M) :=
  some (0, M)
theorem s_X12_leads_17 {M : px_M} {L : px_L} {R : px_R} {e : (Int32 × px_M)} (hS : SR sh R) (hd : 12 ≤ d) (hcu : cu ≤ mc) (hsu : su ≤ ms) (h : f_X12_leads_17 M = some e) (g : Post (some (.int (e.1))) sh (e.2) L R n) : WX RX12 cX12_leads 3 (some .boolean) ("leads", []) d mc ms X (px_QF Post mc ms) 17 [] [] sh M L R n cu su := by
  unfold f_X12_leads_17 at h
  refine wx_iconst (v := 0) dX12_leads_17 (by decide) ?_
  refine wx_zret dX12_leads_18 rfl hcu hsu ?_
  obtain rfl := Option.some.inj h
  exact g
noncomputable def f_X12_leads (M : px_M) (p1 : Int32) : Option (Int32 × px_M) :=
  ok (ix p1 8) <|
  if (M 78 p1.toNatClampNeg) = 0 then
    bd1 (f_X12_isClear M p1) fun e_11 =>
    if e_11.1 = 0 then
      f_X12_leads_17 e_11.2
    else
      ok (ix p1 8) <|
      nm (px_u e_11.2 78 p1.toNatClampNeg 1) fun M_25 =>
      bd1 (f_X12_countOrders M_25 0) fun e_28 =>
      if e_28.1 ≤ 0 then
        f_X12_leads_39 e_28.2 p1 0
      else
        f_X12_leads_39 e_28.2 p1 1
  else
    f_X12_leads_17 M
theorem s_X12_leads {d : Nat} {X : Nat × (Nat → Int32)} {sh : px_Sh} {M : px_M} {L : px_L} {R : px_R} {n : Nat} {p1 : Int32} {e : Int32 × px_M} (hS : SR sh R) (hd : 12 ≤ d) (h : f_X12_leads M p1 = some e) : MX yX12_leads cX12_leads 3 (some .boolean) d 0 0 X [.ref 73, .int p1] sh M L R n (px_pu (some (.int e.1)) sh e.2 L R n) := by
  refine MX.of (by decide +kernel) (by exact Nat.le_of_ble_eq_true rfl) ?_
  have hcu : 0 ≤ 0 := Nat.zero_le _
  have hsu : 0 ≤ 0 := Nat.zero_le _
  have g : px_pu (some (.int e.1)) sh e.2 L R n (some (.int e.1)) sh e.2 L R n := ⟨rfl, rfl, rfl, rfl, rfl, rfl⟩
  unfold f_X12_leads at h
  refine wx_aload_n dX12_leads_0 rfl ?_
  refine wx_getR dX12_leads_1 fl_X12_22 (sc_73 hS) rfl (rr_73_8 hS) ?_
  refine wx_iload_n dX12_leads_4 rfl ?_
  obtain ⟨w_5, h⟩ := ok_some h
  refine wx_bald dX12_leads_5 (sc_78 hS) (ix_in w_5) ?_
  refine wx_if_ne (tgt := 17) dX12_leads_6 (by decide) (fun c_6 => ?_) (fun c_6 => ?_)
  · replace h := it_f h c_6
    exact wx_sub (s_X12_leads_17 hS hd hcu hsu h g) px_0
  · replace h := it_t h c_6
    refine wx_aload_n dX12_leads_9 rfl ?_
    refine wx_iload_n dX12_leads_10 rfl ?_
    obtain ⟨e_11, k_11, h⟩ := bd1_some h
    refine wx_cVi dX12_leads_11 ml_X12_211 my_X12_isClear iv_X12_isClear (sc_73 hS) (by decide) (s_X12_isClear (d := d - 1) hS (by omega) k_11) rfl (by omega) (by exact Nat.le_of_ble_eq_true rfl) hcu hsu ?_
    refine wx_if_ne (tgt := 19) dX12_leads_14 (by decide) (fun c_14 => ?_) (fun c_14 => ?_)
    · replace h := it_f h c_14
      refine wx_aload_n dX12_leads_19 rfl ?_
      refine wx_getR dX12_leads_20 fl_X12_22 (sc_73 hS) rfl (rr_73_8 hS) ?_
      refine wx_iload_n dX12_leads_23 rfl ?_
      refine wx_iconst (v := 1) dX12_leads_24 (by decide) ?_
      obtain ⟨w_25, h⟩ := ok_some h
      refine wx_bast dX12_leads_25 (sc_78 hS) (ix_in w_25) rfl ?_
      refine wx_namM (fun M_25 q_25 => ?_)
      replace h := nm_at h q_25
      refine wx_aload_n dX12_leads_26 rfl ?_
      refine wx_iconst (v := 0) dX12_leads_27 (by decide) ?_
      obtain ⟨e_28, k_28, h⟩ := bd1_some h
      refine wx_cVi dX12_leads_28 ml_X12_215 my_X12_countOrders iv_X12_countOrders (sc_73 hS) (by decide) (s_X12_countOrders (d := d - 1) hS (by omega) k_28) rfl (by omega) (by exact Nat.le_of_ble_eq_true rfl) hcu hsu ?_
      refine wx_if_le (tgt := 38) dX12_leads_31 (by decide) (fun c_31 => ?_) (fun c_31 => ?_)
      · replace h := it_t h c_31
        refine wx_iconst (v := 0) dX12_leads_38 (by decide) ?_
        exact wx_sub (s_X12_leads_39 hS hd hcu hsu h g) (px_s rfl (px_s rfl px_0))
      · replace h := it_f h c_31
        refine wx_iconst (v := 1) dX12_leads_34 (by decide) ?_
        refine wx_goto (tgt := 39) dX12_leads_35 (by decide) ?_
        exact wx_sub (s_X12_leads_39 hS hd hcu hsu h g) (px_s rfl (px_s rfl px_0))
    · replace h := it_t h c_14
      exact wx_sub (s_X12_leads_17 hS hd hcu hsu h g) px_0
noncomputable def f_X12_panel_76 (M : px_M) (x1 : Int32) (x2 : Int32) (x3 : Int32) (x4 : Int32) (x5 : Int32) (z0 : Int32) : Option (Int32 × px_M) :=
  bd1 (f_X12_bad M z0 1) fun e_77 =>
  if e_77.1 = 0 then
    if (e_77.2 73 9) = 16 then
      some ((-1), e_77.2)
    else
      ok (ix (e_77.2 73 9) 16) <|
      nm (px_u e_77.2 79 (e_77.2 73 9).toNatClampNeg x1) fun M_105 =>
      ok (ix (M_105 73 9) 16) <|
      nm (px_u M_105 80 (M_105 73 9).toNatClampNeg x2) fun M_115 =>
      ok (ix (M_115 73 9) 16) <|
      nm (px_u M_115 81 (M_115 73 9).toNatClampNeg x3) fun M_125 =>
      ok (ix (M_125 73 9) 16) <|
      nm (px_u M_125 82 (M_125 73 9).toNatClampNeg x4) fun M_136 =>
      ok (ix (M_136 73 9) 16) <|
      nm (px_u M_136 83 (M_136 73 9).toNatClampNeg x5) fun M_147 =>
      nm ((M_147 73 9) + 1) fun v_155 =>
      nm (px_u M_147 73 9 v_155) fun M_155 =>
      some (((M_155 73 9) - 1), M_155)
  else
    some (0, e_77.2)
theorem s_X12_panel_76 {x1 : Int32} {x2 : Int32} {x3 : Int32} {x4 : Int32} {x5 : Int32} {z0 : Int32} {M : px_M} {L : px_L} {R : px_R} {e : (Int32 × px_M)} (hS : SR sh R) (hd : 1 ≤ d) (hcu : cu ≤ mc) (hsu : su ≤ ms) (h : f_X12_panel_76 M x1 x2 x3 x4 x5 z0 = some e) (g : Post (some (.int (e.1))) sh (e.2) L R n) : WX RX12 cX12_panel 6 (some .int) ("panel", []) d mc ms X (px_QF Post mc ms) 76 [(0, .ref 73), (1, .int x1), (2, .int x2), (3, .int x3), (4, .int x4), (5, .int x5)] [.int z0, .ref 73] sh M L R n cu su := by
  unfold f_X12_panel_76 at h
  refine wx_iconst (v := 1) dX12_panel_76 (by decide) ?_
  obtain ⟨e_77, k_77, h⟩ := bd1_some h
  refine wx_cVi dX12_panel_77 ml_X12_207 my_X12_bad iv_X12_bad (sc_73 hS) (by decide) (s_X12_bad (d := d - 1) hS (by omega) k_77) rfl (by omega) (by exact Nat.le_of_ble_eq_true rfl) hcu hsu ?_
  refine wx_if_eq (tgt := 85) dX12_panel_80 (by decide) (fun c_80 => ?_) (fun c_80 => ?_)
  · replace h := it_t h c_80
    refine wx_aload_n dX12_panel_85 rfl ?_
    refine wx_getI dX12_panel_86 fl_X12_222 (sc_73 hS) rfl ?_
    refine wx_bipush (v := 16) dX12_panel_89 (by decide) ?_
    refine wx_icmp_ne (tgt := 96) dX12_panel_91 (by decide) (fun c_91 => ?_) (fun c_91 => ?_)
    · replace h := it_f h c_91
      refine wx_aload_n dX12_panel_96 rfl ?_
      refine wx_getR dX12_panel_97 fl_X12_26 (sc_73 hS) rfl (rr_73_13 hS) ?_
      refine wx_aload_n dX12_panel_100 rfl ?_
      refine wx_getI dX12_panel_101 fl_X12_222 (sc_73 hS) rfl ?_
      refine wx_iload_n dX12_panel_104 rfl ?_
      obtain ⟨w_105, h⟩ := ok_some h
      refine wx_iast dX12_panel_105 (sc_79 hS) (ix_in w_105) ?_
      refine wx_namM (fun M_105 q_105 => ?_)
      replace h := nm_at h q_105
      refine wx_aload_n dX12_panel_106 rfl ?_
      refine wx_getR dX12_panel_107 fl_X12_29 (sc_73 hS) rfl (rr_73_14 hS) ?_
      refine wx_aload_n dX12_panel_110 rfl ?_
      refine wx_getI dX12_panel_111 fl_X12_222 (sc_73 hS) rfl ?_
      refine wx_iload_n dX12_panel_114 rfl ?_
      obtain ⟨w_115, h⟩ := ok_some h
      refine wx_iast dX12_panel_115 (sc_80 hS) (ix_in w_115) ?_
      refine wx_namM (fun M_115 q_115 => ?_)
      replace h := nm_at h q_115
      refine wx_aload_n dX12_panel_116 rfl ?_
      refine wx_getR dX12_panel_117 fl_X12_32 (sc_73 hS) rfl (rr_73_15 hS) ?_
      refine wx_aload_n dX12_panel_120 rfl ?_
      refine wx_getI dX12_panel_121 fl_X12_222 (sc_73 hS) rfl ?_
      refine wx_iload_n dX12_panel_124 rfl ?_
      obtain ⟨w_125, h⟩ := ok_some h
      refine wx_iast dX12_panel_125 (sc_81 hS) (ix_in w_125) ?_
      refine wx_namM (fun M_125 q_125 => ?_)
      replace h := nm_at h q_125
      refine wx_aload_n dX12_panel_126 rfl ?_
      refine wx_getR dX12_panel_127 fl_X12_35 (sc_73 hS) rfl (rr_73_16 hS) ?_
      refine wx_aload_n dX12_panel_130 rfl ?_
      refine wx_getI dX12_panel_131 fl_X12_222 (sc_73 hS) rfl ?_
      refine wx_iload dX12_panel_134 rfl ?_
      obtain ⟨w_136, h⟩ := ok_some h
      refine wx_iast dX12_panel_136 (sc_82 hS) (ix_in w_136) ?_
      refine wx_namM (fun M_136 q_136 => ?_)
      replace h := nm_at h q_136
      refine wx_aload_n dX12_panel_137 rfl ?_
      refine wx_getR dX12_panel_138 fl_X12_38 (sc_73 hS) rfl (rr_73_17 hS) ?_
      refine wx_aload_n dX12_panel_141 rfl ?_
      refine wx_getI dX12_panel_142 fl_X12_222 (sc_73 hS) rfl ?_
      refine wx_iload dX12_panel_145 rfl ?_
      obtain ⟨w_147, h⟩ := ok_some h
      refine wx_iast dX12_panel_147 (sc_83 hS) (ix_in w_147) ?_
      refine wx_namM (fun M_147 q_147 => ?_)
      replace h := nm_at h q_147
      refine wx_aload_n dX12_panel_148 rfl ?_
      refine wx_dup dX12_panel_149 rfl ?_
      refine wx_getI dX12_panel_150 fl_X12_222 (sc_73 hS) rfl ?_
      refine wx_iconst (v := 1) dX12_panel_153 (by decide) ?_
      refine wx_iadd dX12_panel_154 ?_
      refine wx_nami (fun v_155 q_155 => ?_)
      replace h := nm_at h q_155
      refine wx_putI dX12_panel_155 fl_X12_222 (sc_73 hS) (Or.inl rfl) rfl ⟨rfl, rfl⟩ ?_
      refine wx_namM (fun M_155 q_155 => ?_)
      replace h := nm_at h q_155
      refine wx_aload_n dX12_panel_158 rfl ?_
      refine wx_getI dX12_panel_159 fl_X12_222 (sc_73 hS) rfl ?_
      refine wx_iconst (v := 1) dX12_panel_162 (by decide) ?_
      refine wx_isub dX12_panel_163 ?_
      refine wx_iret dX12_panel_164 hcu hsu ?_
      obtain rfl := Option.some.inj h
      exact g
    · replace h := it_t h c_91
      refine wx_iconst (v := (-1)) dX12_panel_94 (by decide) ?_
      refine wx_iret dX12_panel_95 hcu hsu ?_
      obtain rfl := Option.some.inj h
      exact g
  · replace h := it_f h c_80
    refine wx_iconst (v := 0) dX12_panel_83 (by decide) ?_
    refine wx_iret dX12_panel_84 hcu hsu ?_
    obtain rfl := Option.some.inj h
    exact g
noncomputable def f_X12_panel_71 (M : px_M) (x1 : Int32) (x2 : Int32) (x3 : Int32) (x4 : Int32) (x5 : Int32) : Option (Int32 × px_M) :=
  f_X12_panel_76 M x1 x2 x3 x4 x5 1
theorem s_X12_panel_71 {x1 : Int32} {x2 : Int32} {x3 : Int32} {x4 : Int32} {x5 : Int32} {M : px_M} {L : px_L} {R : px_R} {e : (Int32 × px_M)} (hS : SR sh R) (hd : 1 ≤ d) (hcu : cu ≤ mc) (hsu : su ≤ ms) (h : f_X12_panel_71 M x1 x2 x3 x4 x5 = some e) (g : Post (some (.int (e.1))) sh (e.2) L R n) : WX RX12 cX12_panel 6 (some .int) ("panel", []) d mc ms X (px_QF Post mc ms) 71 [(0, .ref 73), (1, .int x1), (2, .int x2), (3, .int x3), (4, .int x4), (5, .int x5)] [.ref 73] sh M L R n cu su := by
  unfold f_X12_panel_71 at h
  refine wx_iconst (v := 1) dX12_panel_71 (by decide) ?_
  refine wx_goto (tgt := 76) dX12_panel_72 (by decide) ?_
  exact wx_sub (s_X12_panel_76 hS hd hcu hsu h g) (px_s rfl (px_s rfl (px_s rfl (px_s rfl (px_s rfl (px_s rfl px_0))))))
noncomputable def f_X12_panel (M : px_M) (p1 : Int32) (p2 : Int32) (p3 : Int32) (p4 : Int32) (p5 : Int32) : Option (Int32 × px_M) :=
  nm (px_u M 73 0 0) fun M_2 =>
  bd1 (f_X12_in p1 (-20) 20) fun e_11 =>
  if e_11 = 0 then
    f_X12_panel_71 M_2 p1 p2 p3 p4 p5
  else
    bd1 (f_X12_in p2 (-20) 20) fun e_22 =>
    if e_22 = 0 then
      f_X12_panel_71 M_2 p1 p2 p3 p4 p5
    else
      bd1 (f_X12_in p3 1 1000) fun e_33 =>
      if e_33 = 0 then
        f_X12_panel_71 M_2 p1 p2 p3 p4 p5
      else
        bd1 (f_X12_in p4 0 100) fun e_44 =>
        if e_44 = 0 then
          f_X12_panel_71 M_2 p1 p2 p3 p4 p5
        else
          bd1 (f_X12_in p5 0 100) fun e_55 =>
          if e_55 = 0 then
            f_X12_panel_71 M_2 p1 p2 p3 p4 p5
          else
            if (p4 + p5) ≤ 100 then
              f_X12_panel_76 M_2 p1 p2 p3 p4 p5 0
            else
              f_X12_panel_71 M_2 p1 p2 p3 p4 p5
theorem s_X12_panel {d : Nat} {X : Nat × (Nat → Int32)} {sh : px_Sh} {M : px_M} {L : px_L} {R : px_R} {n : Nat} {p1 : Int32} {p2 : Int32} {p3 : Int32} {p4 : Int32} {p5 : Int32} {e : Int32 × px_M} (hS : SR sh R) (hd : 1 ≤ d) (h : f_X12_panel M p1 p2 p3 p4 p5 = some e) : MX yX12_panel cX12_panel 6 (some .int) d 0 0 X [.ref 73, .int p1, .int p2, .int p3, .int p4, .int p5] sh M L R n (px_pu (some (.int e.1)) sh e.2 L R n) := by
  refine MX.of (by decide +kernel) (by exact Nat.le_of_ble_eq_true rfl) ?_
  have hcu : 0 ≤ 0 := Nat.zero_le _
  have hsu : 0 ≤ 0 := Nat.zero_le _
  have g : px_pu (some (.int e.1)) sh e.2 L R n (some (.int e.1)) sh e.2 L R n := ⟨rfl, rfl, rfl, rfl, rfl, rfl⟩
  unfold f_X12_panel at h
  refine wx_aload_n dX12_panel_0 rfl ?_
  refine wx_iconst (v := 0) dX12_panel_1 (by decide) ?_
  refine wx_putI dX12_panel_2 fl_X12_179 (sc_73 hS) (Or.inl rfl) rfl ⟨rfl, rfl⟩ ?_
  refine wx_namM (fun M_2 q_2 => ?_)
  replace h := nm_at h q_2
  refine wx_aload_n dX12_panel_5 rfl ?_
  refine wx_iload_n dX12_panel_6 rfl ?_
  refine wx_bipush (v := (-20)) dX12_panel_7 (by decide) ?_
  refine wx_bipush (v := 20) dX12_panel_9 (by decide) ?_
  obtain ⟨e_11, k_11, h⟩ := bd1_some h
  refine wx_cSi dX12_panel_11 ml_X12_203 my_X12_in sv_X12_in (s_X12_in (d := d - 1) hS (by omega) k_11) rfl (by omega) (by exact Nat.le_of_ble_eq_true rfl) hcu hsu ?_
  refine wx_if_eq (tgt := 71) dX12_panel_14 (by decide) (fun c_14 => ?_) (fun c_14 => ?_)
  · replace h := it_t h c_14
    exact wx_sub (s_X12_panel_71 hS hd hcu hsu h g) (px_s rfl (px_s rfl (px_s rfl (px_s rfl (px_s rfl (px_s rfl px_0))))))
  · replace h := it_f h c_14
    refine wx_iload_n dX12_panel_17 rfl ?_
    refine wx_bipush (v := (-20)) dX12_panel_18 (by decide) ?_
    refine wx_bipush (v := 20) dX12_panel_20 (by decide) ?_
    obtain ⟨e_22, k_22, h⟩ := bd1_some h
    refine wx_cSi dX12_panel_22 ml_X12_203 my_X12_in sv_X12_in (s_X12_in (d := d - 1) hS (by omega) k_22) rfl (by omega) (by exact Nat.le_of_ble_eq_true rfl) hcu hsu ?_
    refine wx_if_eq (tgt := 71) dX12_panel_25 (by decide) (fun c_25 => ?_) (fun c_25 => ?_)
    · replace h := it_t h c_25
      exact wx_sub (s_X12_panel_71 hS hd hcu hsu h g) (px_s rfl (px_s rfl (px_s rfl (px_s rfl (px_s rfl (px_s rfl px_0))))))
    · replace h := it_f h c_25
      refine wx_iload_n dX12_panel_28 rfl ?_
      refine wx_iconst (v := 1) dX12_panel_29 (by decide) ?_
      refine wx_sipush (v := 1000) dX12_panel_30 (by decide) ?_
      obtain ⟨e_33, k_33, h⟩ := bd1_some h
      refine wx_cSi dX12_panel_33 ml_X12_203 my_X12_in sv_X12_in (s_X12_in (d := d - 1) hS (by omega) k_33) rfl (by omega) (by exact Nat.le_of_ble_eq_true rfl) hcu hsu ?_
      refine wx_if_eq (tgt := 71) dX12_panel_36 (by decide) (fun c_36 => ?_) (fun c_36 => ?_)
      · replace h := it_t h c_36
        exact wx_sub (s_X12_panel_71 hS hd hcu hsu h g) (px_s rfl (px_s rfl (px_s rfl (px_s rfl (px_s rfl (px_s rfl px_0))))))
      · replace h := it_f h c_36
        refine wx_iload dX12_panel_39 rfl ?_
        refine wx_iconst (v := 0) dX12_panel_41 (by decide) ?_
        refine wx_bipush (v := 100) dX12_panel_42 (by decide) ?_
        obtain ⟨e_44, k_44, h⟩ := bd1_some h
        refine wx_cSi dX12_panel_44 ml_X12_203 my_X12_in sv_X12_in (s_X12_in (d := d - 1) hS (by omega) k_44) rfl (by omega) (by exact Nat.le_of_ble_eq_true rfl) hcu hsu ?_
        refine wx_if_eq (tgt := 71) dX12_panel_47 (by decide) (fun c_47 => ?_) (fun c_47 => ?_)
        · replace h := it_t h c_47
          exact wx_sub (s_X12_panel_71 hS hd hcu hsu h g) (px_s rfl (px_s rfl (px_s rfl (px_s rfl (px_s rfl (px_s rfl px_0))))))
        · replace h := it_f h c_47
          refine wx_iload dX12_panel_50 rfl ?_
          refine wx_iconst (v := 0) dX12_panel_52 (by decide) ?_
          refine wx_bipush (v := 100) dX12_panel_53 (by decide) ?_
          obtain ⟨e_55, k_55, h⟩ := bd1_some h
          refine wx_cSi dX12_panel_55 ml_X12_203 my_X12_in sv_X12_in (s_X12_in (d := d - 1) hS (by omega) k_55) rfl (by omega) (by exact Nat.le_of_ble_eq_true rfl) hcu hsu ?_
          refine wx_if_eq (tgt := 71) dX12_panel_58 (by decide) (fun c_58 => ?_) (fun c_58 => ?_)
          · replace h := it_t h c_58
            exact wx_sub (s_X12_panel_71 hS hd hcu hsu h g) (px_s rfl (px_s rfl (px_s rfl (px_s rfl (px_s rfl (px_s rfl px_0))))))
          · replace h := it_f h c_58
            refine wx_iload dX12_panel_61 rfl ?_
            refine wx_iload dX12_panel_63 rfl ?_
            refine wx_iadd dX12_panel_65 ?_
            refine wx_bipush (v := 100) dX12_panel_66 (by decide) ?_
            refine wx_icmp_le (tgt := 75) dX12_panel_68 (by decide) (fun c_68 => ?_) (fun c_68 => ?_)
            · replace h := it_t h c_68
              refine wx_iconst (v := 0) dX12_panel_75 (by decide) ?_
              exact wx_sub (s_X12_panel_76 hS hd hcu hsu h g) (px_s rfl (px_s rfl (px_s rfl (px_s rfl (px_s rfl (px_s rfl px_0))))))
            · replace h := it_f h c_68
              exact wx_sub (s_X12_panel_71 hS hd hcu hsu h g) (px_s rfl (px_s rfl (px_s rfl (px_s rfl (px_s rfl (px_s rfl px_0))))))
noncomputable def f_X12_of_125 (M : px_M) (z0 : Int32) : Option (Int32 × px_M) :=
  some (z0, M)
theorem s_X12_of_125 {z0 : Int32} {M : px_M} {L : px_L} {R : px_R} {e : (Int32 × px_M)} (hS : SR sh R) (hd : 1 ≤ d) (hcu : cu ≤ mc) (hsu : su ≤ ms) (h : f_X12_of_125 M z0 = some e) (g : Post (some (.int (e.1))) sh (e.2) L R n) : WX RX12 cX12_of 3 (some .int) ("of", []) d mc ms X (px_QF Post mc ms) 125 [] [.int z0] sh M L R n cu su := by
  unfold f_X12_of_125 at h
  refine wx_iret dX12_of_125 hcu hsu ?_
  obtain rfl := Option.some.inj h
  exact g
noncomputable def f_X12_of_54 (M : px_M) : Option (Int32 × px_M) :=
  some (0, M)
theorem s_X12_of_54 {M : px_M} {L : px_L} {R : px_R} {e : (Int32 × px_M)} (hS : SR sh R) (hd : 1 ≤ d) (hcu : cu ≤ mc) (hsu : su ≤ ms) (h : f_X12_of_54 M = some e) (g : Post (some (.int (e.1))) sh (e.2) L R n) : WX RX12 cX12_of 3 (some .int) ("of", []) d mc ms X (px_QF Post mc ms) 54 [] [] sh M L R n cu su := by
  unfold f_X12_of_54 at h
  refine wx_iconst (v := 0) dX12_of_54 (by decide) ?_
  refine wx_iret dX12_of_55 hcu hsu ?_
  obtain rfl := Option.some.inj h
  exact g
noncomputable def f_X12_of_47 (M : px_M) (x1 : Int32) (x2 : Int32) (z0 : Int32) : Option (Int32 × px_M) :=
  bd1 (f_X12_bad M z0 2) fun e_48 =>
  if e_48.1 = 0 then
    if x2 = 0 then
      ok (ix x1 16) <|
      f_X12_of_125 e_48.2 (e_48.2 82 x1.toNatClampNeg)
    else
      if x2 = 1 then
        ok (ix x1 16) <|
        f_X12_of_125 e_48.2 (e_48.2 83 x1.toNatClampNeg)
      else
        if x2 = 2 then
          ok (ix x1 16) <|
          if (e_48.2 86 x1.toNatClampNeg) = 0 then
            f_X12_of_125 e_48.2 0
          else
            f_X12_of_125 e_48.2 1
        else
          if x2 = 3 then
            ok (ix x1 16) <|
            f_X12_of_125 e_48.2 (e_48.2 84 x1.toNatClampNeg)
          else
            ok (ix x1 16) <|
            f_X12_of_125 e_48.2 (e_48.2 85 x1.toNatClampNeg)
  else
    f_X12_of_54 e_48.2
theorem s_X12_of_47 {x1 : Int32} {x2 : Int32} {z0 : Int32} {M : px_M} {L : px_L} {R : px_R} {e : (Int32 × px_M)} (hS : SR sh R) (hd : 1 ≤ d) (hcu : cu ≤ mc) (hsu : su ≤ ms) (h : f_X12_of_47 M x1 x2 z0 = some e) (g : Post (some (.int (e.1))) sh (e.2) L R n) : WX RX12 cX12_of 3 (some .int) ("of", []) d mc ms X (px_QF Post mc ms) 47 [(0, .ref 73), (1, .int x1), (2, .int x2)] [.int z0, .ref 73] sh M L R n cu su := by
  unfold f_X12_of_47 at h
  refine wx_iconst (v := 2) dX12_of_47 (by decide) ?_
  obtain ⟨e_48, k_48, h⟩ := bd1_some h
  refine wx_cVi dX12_of_48 ml_X12_207 my_X12_bad iv_X12_bad (sc_73 hS) (by decide) (s_X12_bad (d := d - 1) hS (by omega) k_48) rfl (by omega) (by exact Nat.le_of_ble_eq_true rfl) hcu hsu ?_
  refine wx_if_eq (tgt := 56) dX12_of_51 (by decide) (fun c_51 => ?_) (fun c_51 => ?_)
  · replace h := it_t h c_51
    refine wx_iload_n dX12_of_56 rfl ?_
    refine wx_if_ne (tgt := 69) dX12_of_57 (by decide) (fun c_57 => ?_) (fun c_57 => ?_)
    · replace h := it_f h c_57
      refine wx_iload_n dX12_of_69 rfl ?_
      refine wx_iconst (v := 1) dX12_of_70 (by decide) ?_
      refine wx_icmp_ne (tgt := 83) dX12_of_71 (by decide) (fun c_71 => ?_) (fun c_71 => ?_)
      · replace h := it_f h c_71
        refine wx_iload_n dX12_of_83 rfl ?_
        refine wx_iconst (v := 2) dX12_of_84 (by decide) ?_
        refine wx_icmp_ne (tgt := 105) dX12_of_85 (by decide) (fun c_85 => ?_) (fun c_85 => ?_)
        · replace h := it_f h c_85
          refine wx_iload_n dX12_of_105 rfl ?_
          refine wx_iconst (v := 3) dX12_of_106 (by decide) ?_
          refine wx_icmp_ne (tgt := 119) dX12_of_107 (by decide) (fun c_107 => ?_) (fun c_107 => ?_)
          · replace h := it_f h c_107
            refine wx_aload_n dX12_of_119 rfl ?_
            refine wx_getR dX12_of_120 fl_X12_44 (sc_73 hS) rfl (rr_73_19 hS) ?_
            refine wx_iload_n dX12_of_123 rfl ?_
            obtain ⟨w_124, h⟩ := ok_some h
            refine wx_iald dX12_of_124 (sc_85 hS) (ix_in w_124) ?_
            exact wx_sub (s_X12_of_125 hS hd hcu hsu h g) px_0
          · replace h := it_t h c_107
            refine wx_aload_n dX12_of_110 rfl ?_
            refine wx_getR dX12_of_111 fl_X12_41 (sc_73 hS) rfl (rr_73_18 hS) ?_
            refine wx_iload_n dX12_of_114 rfl ?_
            obtain ⟨w_115, h⟩ := ok_some h
            refine wx_iald dX12_of_115 (sc_84 hS) (ix_in w_115) ?_
            refine wx_goto (tgt := 125) dX12_of_116 (by decide) ?_
            exact wx_sub (s_X12_of_125 hS hd hcu hsu h g) px_0
        · replace h := it_t h c_85
          refine wx_aload_n dX12_of_88 rfl ?_
          refine wx_getR dX12_of_89 fl_X12_47 (sc_73 hS) rfl (rr_73_20 hS) ?_
          refine wx_iload_n dX12_of_92 rfl ?_
          obtain ⟨w_93, h⟩ := ok_some h
          refine wx_bald dX12_of_93 (sc_86 hS) (ix_in w_93) ?_
          refine wx_if_eq (tgt := 101) dX12_of_94 (by decide) (fun c_94 => ?_) (fun c_94 => ?_)
          · replace h := it_t h c_94
            refine wx_iconst (v := 0) dX12_of_101 (by decide) ?_
            refine wx_goto (tgt := 125) dX12_of_102 (by decide) ?_
            exact wx_sub (s_X12_of_125 hS hd hcu hsu h g) px_0
          · replace h := it_f h c_94
            refine wx_iconst (v := 1) dX12_of_97 (by decide) ?_
            refine wx_goto (tgt := 125) dX12_of_98 (by decide) ?_
            exact wx_sub (s_X12_of_125 hS hd hcu hsu h g) px_0
      · replace h := it_t h c_71
        refine wx_aload_n dX12_of_74 rfl ?_
        refine wx_getR dX12_of_75 fl_X12_38 (sc_73 hS) rfl (rr_73_17 hS) ?_
        refine wx_iload_n dX12_of_78 rfl ?_
        obtain ⟨w_79, h⟩ := ok_some h
        refine wx_iald dX12_of_79 (sc_83 hS) (ix_in w_79) ?_
        refine wx_goto (tgt := 125) dX12_of_80 (by decide) ?_
        exact wx_sub (s_X12_of_125 hS hd hcu hsu h g) px_0
    · replace h := it_t h c_57
      refine wx_aload_n dX12_of_60 rfl ?_
      refine wx_getR dX12_of_61 fl_X12_35 (sc_73 hS) rfl (rr_73_16 hS) ?_
      refine wx_iload_n dX12_of_64 rfl ?_
      obtain ⟨w_65, h⟩ := ok_some h
      refine wx_iald dX12_of_65 (sc_82 hS) (ix_in w_65) ?_
      refine wx_goto (tgt := 125) dX12_of_66 (by decide) ?_
      exact wx_sub (s_X12_of_125 hS hd hcu hsu h g) px_0
  · replace h := it_f h c_51
    exact wx_sub (s_X12_of_54 hS hd hcu hsu h g) px_0
noncomputable def f_X12_of_25 (M : px_M) (x1 : Int32) (x2 : Int32) (z0 : Int32) : Option (Int32 × px_M) :=
  bd1 (f_X12_bad M z0 1) fun e_26 =>
  if e_26.1 = 0 then
    bd1 (f_X12_in x2 0 4) fun e_36 =>
    if e_36 = 0 then
      f_X12_of_47 e_26.2 x1 x2 1
    else
      f_X12_of_47 e_26.2 x1 x2 0
  else
    f_X12_of_54 e_26.2
theorem s_X12_of_25 {x1 : Int32} {x2 : Int32} {z0 : Int32} {M : px_M} {L : px_L} {R : px_R} {e : (Int32 × px_M)} (hS : SR sh R) (hd : 1 ≤ d) (hcu : cu ≤ mc) (hsu : su ≤ ms) (h : f_X12_of_25 M x1 x2 z0 = some e) (g : Post (some (.int (e.1))) sh (e.2) L R n) : WX RX12 cX12_of 3 (some .int) ("of", []) d mc ms X (px_QF Post mc ms) 25 [(0, .ref 73), (1, .int x1), (2, .int x2)] [.int z0, .ref 73] sh M L R n cu su := by
  unfold f_X12_of_25 at h
  refine wx_iconst (v := 1) dX12_of_25 (by decide) ?_
  obtain ⟨e_26, k_26, h⟩ := bd1_some h
  refine wx_cVi dX12_of_26 ml_X12_207 my_X12_bad iv_X12_bad (sc_73 hS) (by decide) (s_X12_bad (d := d - 1) hS (by omega) k_26) rfl (by omega) (by exact Nat.le_of_ble_eq_true rfl) hcu hsu ?_
  refine wx_if_ne (tgt := 54) dX12_of_29 (by decide) (fun c_29 => ?_) (fun c_29 => ?_)
  · replace h := it_f h c_29
    exact wx_sub (s_X12_of_54 hS hd hcu hsu h g) px_0
  · replace h := it_t h c_29
    refine wx_aload_n dX12_of_32 rfl ?_
    refine wx_iload_n dX12_of_33 rfl ?_
    refine wx_iconst (v := 0) dX12_of_34 (by decide) ?_
    refine wx_iconst (v := 4) dX12_of_35 (by decide) ?_
    obtain ⟨e_36, k_36, h⟩ := bd1_some h
    refine wx_cSi dX12_of_36 ml_X12_203 my_X12_in sv_X12_in (s_X12_in (d := d - 1) hS (by omega) k_36) rfl (by omega) (by exact Nat.le_of_ble_eq_true rfl) hcu hsu ?_
    refine wx_if_ne (tgt := 46) dX12_of_39 (by decide) (fun c_39 => ?_) (fun c_39 => ?_)
    · replace h := it_f h c_39
      refine wx_iconst (v := 0) dX12_of_46 (by decide) ?_
      exact wx_sub (s_X12_of_47 hS hd hcu hsu h g) (px_s rfl (px_s rfl (px_s rfl px_0)))
    · replace h := it_t h c_39
      refine wx_iconst (v := 1) dX12_of_42 (by decide) ?_
      refine wx_goto (tgt := 47) dX12_of_43 (by decide) ?_
      exact wx_sub (s_X12_of_47 hS hd hcu hsu h g) (px_s rfl (px_s rfl (px_s rfl px_0)))
noncomputable def f_X12_of (M : px_M) (p1 : Int32) (p2 : Int32) : Option (Int32 × px_M) :=
  nm (px_u M 73 0 0) fun M_2 =>
  bd1 (f_X12_in p1 0 ((M_2 73 9) - 1)) fun e_14 =>
  if e_14 = 0 then
    f_X12_of_25 M_2 p1 p2 1
  else
    f_X12_of_25 M_2 p1 p2 0
theorem s_X12_of {d : Nat} {X : Nat × (Nat → Int32)} {sh : px_Sh} {M : px_M} {L : px_L} {R : px_R} {n : Nat} {p1 : Int32} {p2 : Int32} {e : Int32 × px_M} (hS : SR sh R) (hd : 1 ≤ d) (h : f_X12_of M p1 p2 = some e) : MX yX12_of cX12_of 3 (some .int) d 0 0 X [.ref 73, .int p1, .int p2] sh M L R n (px_pu (some (.int e.1)) sh e.2 L R n) := by
  refine MX.of (by decide +kernel) (by exact Nat.le_of_ble_eq_true rfl) ?_
  have hcu : 0 ≤ 0 := Nat.zero_le _
  have hsu : 0 ≤ 0 := Nat.zero_le _
  have g : px_pu (some (.int e.1)) sh e.2 L R n (some (.int e.1)) sh e.2 L R n := ⟨rfl, rfl, rfl, rfl, rfl, rfl⟩
  unfold f_X12_of at h
  refine wx_aload_n dX12_of_0 rfl ?_
  refine wx_iconst (v := 0) dX12_of_1 (by decide) ?_
  refine wx_putI dX12_of_2 fl_X12_179 (sc_73 hS) (Or.inl rfl) rfl ⟨rfl, rfl⟩ ?_
  refine wx_namM (fun M_2 q_2 => ?_)
  replace h := nm_at h q_2
  refine wx_aload_n dX12_of_5 rfl ?_
  refine wx_iload_n dX12_of_6 rfl ?_
  refine wx_iconst (v := 0) dX12_of_7 (by decide) ?_
  refine wx_aload_n dX12_of_8 rfl ?_
  refine wx_getI dX12_of_9 fl_X12_222 (sc_73 hS) rfl ?_
  refine wx_iconst (v := 1) dX12_of_12 (by decide) ?_
  refine wx_isub dX12_of_13 ?_
  obtain ⟨e_14, k_14, h⟩ := bd1_some h
  refine wx_cSi dX12_of_14 ml_X12_203 my_X12_in sv_X12_in (s_X12_in (d := d - 1) hS (by omega) k_14) rfl (by omega) (by exact Nat.le_of_ble_eq_true rfl) hcu hsu ?_
  refine wx_if_ne (tgt := 24) dX12_of_17 (by decide) (fun c_17 => ?_) (fun c_17 => ?_)
  · replace h := it_f h c_17
    refine wx_iconst (v := 0) dX12_of_24 (by decide) ?_
    exact wx_sub (s_X12_of_25 hS hd hcu hsu h g) (px_s rfl (px_s rfl (px_s rfl px_0)))
  · replace h := it_t h c_17
    refine wx_iconst (v := 1) dX12_of_20 (by decide) ?_
    refine wx_goto (tgt := 25) dX12_of_21 (by decide) ?_
    exact wx_sub (s_X12_of_25 hS hd hcu hsu h g) (px_s rfl (px_s rfl (px_s rfl px_0)))
noncomputable def f_X12_tear_25 (M : px_M) (x1 : Int32) (z0 : Int32) : Option (Int32 × px_M) :=
  bd1 (f_X12_bad M z0 1) fun e_26 =>
  if e_26.1 = 0 then
    ok (ix x1 16) <|
    nm (e_26.2 86 x1.toNatClampNeg) fun v_40 =>
    ok (ix x1 16) <|
    nm (px_u e_26.2 86 x1.toNatClampNeg 1) fun M_47 =>
    ok (zb v_40) <|
    some (v_40, M_47)
  else
    some (0, e_26.2)
theorem s_X12_tear_25 {x1 : Int32} {z0 : Int32} {M : px_M} {L : px_L} {R : px_R} {e : (Int32 × px_M)} (hS : SR sh R) (hd : 1 ≤ d) (hcu : cu ≤ mc) (hsu : su ≤ ms) (h : f_X12_tear_25 M x1 z0 = some e) (g : Post (some (.int (e.1))) sh (e.2) L R n) : WX RX12 cX12_tear 3 (some .boolean) ("tear", []) d mc ms X (px_QF Post mc ms) 25 [(0, .ref 73), (1, .int x1)] [.int z0, .ref 73] sh M L R n cu su := by
  unfold f_X12_tear_25 at h
  refine wx_iconst (v := 1) dX12_tear_25 (by decide) ?_
  obtain ⟨e_26, k_26, h⟩ := bd1_some h
  refine wx_cVi dX12_tear_26 ml_X12_207 my_X12_bad iv_X12_bad (sc_73 hS) (by decide) (s_X12_bad (d := d - 1) hS (by omega) k_26) rfl (by omega) (by exact Nat.le_of_ble_eq_true rfl) hcu hsu ?_
  refine wx_if_eq (tgt := 34) dX12_tear_29 (by decide) (fun c_29 => ?_) (fun c_29 => ?_)
  · replace h := it_t h c_29
    refine wx_aload_n dX12_tear_34 rfl ?_
    refine wx_getR dX12_tear_35 fl_X12_47 (sc_73 hS) rfl (rr_73_20 hS) ?_
    refine wx_iload_n dX12_tear_38 rfl ?_
    obtain ⟨w_39, h⟩ := ok_some h
    refine wx_bald dX12_tear_39 (sc_86 hS) (ix_in w_39) ?_
    refine wx_nami (fun v_40 q_40 => ?_)
    replace h := nm_at h q_40
    refine wx_istore_n (lv' := [(2, _), (0, _), (1, _)]) dX12_tear_40 (by decide) rfl ?_
    refine wx_aload_n dX12_tear_41 rfl ?_
    refine wx_getR dX12_tear_42 fl_X12_47 (sc_73 hS) rfl (rr_73_20 hS) ?_
    refine wx_iload_n dX12_tear_45 rfl ?_
    refine wx_iconst (v := 1) dX12_tear_46 (by decide) ?_
    obtain ⟨w_47, h⟩ := ok_some h
    refine wx_bast dX12_tear_47 (sc_86 hS) (ix_in w_47) rfl ?_
    refine wx_namM (fun M_47 q_47 => ?_)
    replace h := nm_at h q_47
    refine wx_iload_n dX12_tear_48 rfl ?_
    obtain ⟨w_49, h⟩ := ok_some h
    refine wx_zret dX12_tear_49 (zb_n w_49) hcu hsu ?_
    obtain rfl := Option.some.inj h
    exact g
  · replace h := it_f h c_29
    refine wx_iconst (v := 0) dX12_tear_32 (by decide) ?_
    refine wx_zret dX12_tear_33 rfl hcu hsu ?_
    obtain rfl := Option.some.inj h
    exact g
noncomputable def f_X12_tear (M : px_M) (p1 : Int32) : Option (Int32 × px_M) :=
  nm (px_u M 73 0 0) fun M_2 =>
  bd1 (f_X12_in p1 0 ((M_2 73 9) - 1)) fun e_14 =>
  if e_14 = 0 then
    f_X12_tear_25 M_2 p1 1
  else
    f_X12_tear_25 M_2 p1 0
theorem s_X12_tear {d : Nat} {X : Nat × (Nat → Int32)} {sh : px_Sh} {M : px_M} {L : px_L} {R : px_R} {n : Nat} {p1 : Int32} {e : Int32 × px_M} (hS : SR sh R) (hd : 1 ≤ d) (h : f_X12_tear M p1 = some e) : MX yX12_tear cX12_tear 3 (some .boolean) d 0 0 X [.ref 73, .int p1] sh M L R n (px_pu (some (.int e.1)) sh e.2 L R n) := by
  refine MX.of (by decide +kernel) (by exact Nat.le_of_ble_eq_true rfl) ?_
  have hcu : 0 ≤ 0 := Nat.zero_le _
  have hsu : 0 ≤ 0 := Nat.zero_le _
  have g : px_pu (some (.int e.1)) sh e.2 L R n (some (.int e.1)) sh e.2 L R n := ⟨rfl, rfl, rfl, rfl, rfl, rfl⟩
  unfold f_X12_tear at h
  refine wx_aload_n dX12_tear_0 rfl ?_
  refine wx_iconst (v := 0) dX12_tear_1 (by decide) ?_
  refine wx_putI dX12_tear_2 fl_X12_179 (sc_73 hS) (Or.inl rfl) rfl ⟨rfl, rfl⟩ ?_
  refine wx_namM (fun M_2 q_2 => ?_)
  replace h := nm_at h q_2
  refine wx_aload_n dX12_tear_5 rfl ?_
  refine wx_iload_n dX12_tear_6 rfl ?_
  refine wx_iconst (v := 0) dX12_tear_7 (by decide) ?_
  refine wx_aload_n dX12_tear_8 rfl ?_
  refine wx_getI dX12_tear_9 fl_X12_222 (sc_73 hS) rfl ?_
  refine wx_iconst (v := 1) dX12_tear_12 (by decide) ?_
  refine wx_isub dX12_tear_13 ?_
  obtain ⟨e_14, k_14, h⟩ := bd1_some h
  refine wx_cSi dX12_tear_14 ml_X12_203 my_X12_in sv_X12_in (s_X12_in (d := d - 1) hS (by omega) k_14) rfl (by omega) (by exact Nat.le_of_ble_eq_true rfl) hcu hsu ?_
  refine wx_if_ne (tgt := 24) dX12_tear_17 (by decide) (fun c_17 => ?_) (fun c_17 => ?_)
  · replace h := it_f h c_17
    refine wx_iconst (v := 0) dX12_tear_24 (by decide) ?_
    exact wx_sub (s_X12_tear_25 hS hd hcu hsu h g) (px_s rfl (px_s rfl px_0))
  · replace h := it_t h c_17
    refine wx_iconst (v := 1) dX12_tear_20 (by decide) ?_
    refine wx_goto (tgt := 25) dX12_tear_21 (by decide) ?_
    exact wx_sub (s_X12_tear_25 hS hd hcu hsu h g) (px_s rfl (px_s rfl px_0))
noncomputable def f_X12_flapOf_2 (M : px_M) (x1 : Int32) (x2 : Int32) : Option ((Int32) ⊕ ((Int32) ⊕ (Unit))) :=
  if (M 73 10) ≤ x2 then
    some (.inr (.inr ()))
  else
    ok (ix x2 4) <|
    if (M 87 x2.toNatClampNeg) = x1 then
      some (.inr (.inl x2))
    else
      some (.inl (x2 + 1))
theorem s_X12_flapOf_2b {x1 : Int32} {x2 : Int32} {M : px_M} {L : px_L} {R : px_R} {e : ((Int32) ⊕ ((Int32) ⊕ (Unit)))} (hS : SR sh R) (hd : 0 ≤ d) (hcu : cu ≤ mc) (hsu : su ≤ ms) (h : f_X12_flapOf_2 M x1 x2 = some e) (g : (sE (fun a => WX RX12 cX12_flapOf 3 (some .int) ("flapOf", []) d mc ms X (px_QF Post mc ms) 2 [(0, .ref 73), (1, .int x1), (2, .int a)] [] sh M L R n cu su) (sE (fun t => WX RX12 cX12_flapOf 3 (some .int) ("flapOf", []) d mc ms X (px_QF Post mc ms) 20 [(2, .int t)] [] sh M L R n cu su) (fun t => WX RX12 cX12_flapOf 3 (some .int) ("flapOf", []) d mc ms X (px_QF Post mc ms) 28 [] [] sh M L R n cu su))) e) : WX RX12 cX12_flapOf 3 (some .int) ("flapOf", []) d mc ms X (px_QF Post mc ms) 2 [(0, .ref 73), (1, .int x1), (2, .int x2)] [] sh M L R n cu su := by
  unfold f_X12_flapOf_2 at h
  refine wx_iload_n dX12_flapOf_2 rfl ?_
  refine wx_aload_n dX12_flapOf_3 rfl ?_
  refine wx_getI dX12_flapOf_4 fl_X12_225 (sc_73 hS) rfl ?_
  refine wx_icmp_ge (tgt := 28) dX12_flapOf_7 (by decide) (fun c_7 => ?_) (fun c_7 => ?_)
  · replace h := it_t h c_7
    obtain rfl := Option.some.inj h
    replace g := sE_r (sE_r g)
    exact wx_sub g px_0
  · replace h := it_f h c_7
    refine wx_aload_n dX12_flapOf_10 rfl ?_
    refine wx_getR dX12_flapOf_11 fl_X12_50 (sc_73 hS) rfl (rr_73_21 hS) ?_
    refine wx_iload_n dX12_flapOf_14 rfl ?_
    obtain ⟨w_15, h⟩ := ok_some h
    refine wx_iald dX12_flapOf_15 (sc_87 hS) (ix_in w_15) ?_
    refine wx_iload_n dX12_flapOf_16 rfl ?_
    refine wx_icmp_ne (tgt := 22) dX12_flapOf_17 (by decide) (fun c_17 => ?_) (fun c_17 => ?_)
    · replace h := it_f h c_17
      refine wx_iinc (lv' := [(2, _), (0, _), (1, _)]) dX12_flapOf_22 rfl (i_1 _) (by decide) rfl ?_
      refine wx_goto (tgt := 2) dX12_flapOf_25 (by decide) ?_
      obtain rfl := Option.some.inj h
      replace g := sE_l g
      exact wx_sub g (px_s rfl (px_s rfl (px_s rfl px_0)))
    · replace h := it_t h c_17
      obtain rfl := Option.some.inj h
      replace g := sE_l (sE_r g)
      exact wx_sub g (px_s rfl px_0)
theorem s_X12_flapOf_2 {x1 : Int32} {x2 : Int32} {M : px_M} {L : px_L} {R : px_R} {e : ((Int32) ⊕ (Unit))} (hS : SR sh R) (hd : 0 ≤ d) (hcu : cu ≤ mc) (hsu : su ≤ ms) (h : lpf (fun a : Int32 => f_X12_flapOf_2 M x1 a) x2 = some e) (g : (sE (fun t => WX RX12 cX12_flapOf 3 (some .int) ("flapOf", []) d mc ms X (px_QF Post mc ms) 20 [(2, .int t)] [] sh M L R n cu su) (fun t => WX RX12 cX12_flapOf 3 (some .int) ("flapOf", []) d mc ms X (px_QF Post mc ms) 28 [] [] sh M L R n cu su)) e) : WX RX12 cX12_flapOf 3 (some .int) ("flapOf", []) d mc ms X (px_QF Post mc ms) 2 [(0, .ref 73), (1, .int x1), (2, .int x2)] [] sh M L R n cu su := by
  have key := lpf_wp (P := (fun a => WX RX12 cX12_flapOf 3 (some .int) ("flapOf", []) d mc ms X (px_QF Post mc ms) 2 [(0, .ref 73), (1, .int x1), (2, .int a)] [] sh M L R n cu su)) (G := (sE (fun t => WX RX12 cX12_flapOf 3 (some .int) ("flapOf", []) d mc ms X (px_QF Post mc ms) 20 [(2, .int t)] [] sh M L R n cu su) (fun t => WX RX12 cX12_flapOf 3 (some .int) ("flapOf", []) d mc ms X (px_QF Post mc ms) 28 [] [] sh M L R n cu su))) (fun a r h g => s_X12_flapOf_2b (x1 := x1) (x2 := a) (M := M) (L := L) (R := R) hS hd hcu hsu h g) (a := x2) h g
  exact key
noncomputable def f_X12_flapOf (M : px_M) (p1 : Int32) : Option (Int32) :=
  bdS (lpf (fun a : Int32 => f_X12_flapOf_2 M p1 a) 0) (fun t_2_0 =>
  some t_2_0) (fun u_2_0 =>
  some (-1))
theorem s_X12_flapOf {d : Nat} {X : Nat × (Nat → Int32)} {sh : px_Sh} {M : px_M} {L : px_L} {R : px_R} {n : Nat} {p1 : Int32} {e : Int32} (hS : SR sh R) (hd : 0 ≤ d) (h : f_X12_flapOf M p1 = some e) : MX yX12_flapOf cX12_flapOf 3 (some .int) d 0 0 X [.ref 73, .int p1] sh M L R n (px_pu (some (.int e)) sh M L R n) := by
  refine MX.of (by decide +kernel) (by exact Nat.le_of_ble_eq_true rfl) ?_
  have hcu : 0 ≤ 0 := Nat.zero_le _
  have hsu : 0 ≤ 0 := Nat.zero_le _
  have g : px_pu (some (.int e)) sh M L R n (some (.int e)) sh M L R n := ⟨rfl, rfl, rfl, rfl, rfl, rfl⟩
  unfold f_X12_flapOf at h
  refine wx_iconst (v := 0) dX12_flapOf_0 (by decide) ?_
  refine wx_istore_n (lv' := [(2, _), (0, _), (1, _)]) dX12_flapOf_1 (by decide) rfl ?_
  rcases bdS_some h with ⟨t_2_0, k_2_0, h⟩ | ⟨u_2_0, k_2_0, h⟩
  · refine wx_sub (s_X12_flapOf_2 hS hd hcu hsu k_2_0 (sE_li ?_)) (px_s rfl (px_s rfl (px_s rfl px_0)))
    refine wx_iload_n dX12_flapOf_20 rfl ?_
    refine wx_iret dX12_flapOf_21 hcu hsu ?_
    obtain rfl := Option.some.inj h
    exact g
  · refine wx_sub (s_X12_flapOf_2 hS hd hcu hsu k_2_0 (sE_ri ?_)) (px_s rfl (px_s rfl (px_s rfl px_0)))
    refine wx_iconst (v := (-1)) dX12_flapOf_28 (by decide) ?_
    refine wx_iret dX12_flapOf_29 hcu hsu ?_
    obtain rfl := Option.some.inj h
    exact g
noncomputable def f_X12_flap_25 (M : px_M) (x1 : Int32) (z0 : Int32) : Option (Int32 × px_M) :=
  bd1 (f_X12_bad M z0 1) fun e_26 =>
  if e_26.1 = 0 then
    if (e_26.2 73 10) = 4 then
      some ((-1), e_26.2)
    else
      bd1 (f_X12_flapOf e_26.2 x1) fun e_46 =>
      if e_46 = (-1) then
        ok (ix (e_26.2 73 10) 4) <|
        nm (px_u e_26.2 87 (e_26.2 73 10).toNatClampNeg x1) fun M_65 =>
        nm ((M_65 73 10) + 1) fun v_73 =>
        nm (px_u M_65 73 10 v_73) fun M_73 =>
        some (((M_73 73 10) - 1), M_73)
      else
        some ((-2), e_26.2)
  else
    some (0, e_26.2)
theorem s_X12_flap_25 {x1 : Int32} {z0 : Int32} {M : px_M} {L : px_L} {R : px_R} {e : (Int32 × px_M)} (hS : SR sh R) (hd : 1 ≤ d) (hcu : cu ≤ mc) (hsu : su ≤ ms) (h : f_X12_flap_25 M x1 z0 = some e) (g : Post (some (.int (e.1))) sh (e.2) L R n) : WX RX12 cX12_flap 2 (some .int) ("flap", []) d mc ms X (px_QF Post mc ms) 25 [(0, .ref 73), (1, .int x1)] [.int z0, .ref 73] sh M L R n cu su := by
  unfold f_X12_flap_25 at h
  refine wx_iconst (v := 1) dX12_flap_25 (by decide) ?_
  obtain ⟨e_26, k_26, h⟩ := bd1_some h
  refine wx_cVi dX12_flap_26 ml_X12_207 my_X12_bad iv_X12_bad (sc_73 hS) (by decide) (s_X12_bad (d := d - 1) hS (by omega) k_26) rfl (by omega) (by exact Nat.le_of_ble_eq_true rfl) hcu hsu ?_
  refine wx_if_eq (tgt := 34) dX12_flap_29 (by decide) (fun c_29 => ?_) (fun c_29 => ?_)
  · replace h := it_t h c_29
    refine wx_aload_n dX12_flap_34 rfl ?_
    refine wx_getI dX12_flap_35 fl_X12_225 (sc_73 hS) rfl ?_
    refine wx_iconst (v := 4) dX12_flap_38 (by decide) ?_
    refine wx_icmp_ne (tgt := 44) dX12_flap_39 (by decide) (fun c_39 => ?_) (fun c_39 => ?_)
    · replace h := it_f h c_39
      refine wx_aload_n dX12_flap_44 rfl ?_
      refine wx_iload_n dX12_flap_45 rfl ?_
      obtain ⟨e_46, k_46, h⟩ := bd1_some h
      refine wx_cVi dX12_flap_46 ml_X12_228 my_X12_flapOf iv_X12_flapOf (sc_73 hS) (by decide) (s_X12_flapOf (d := d - 1) hS (by omega) k_46) rfl (by omega) (by exact Nat.le_of_ble_eq_true rfl) hcu hsu ?_
      refine wx_iconst (v := (-1)) dX12_flap_49 (by decide) ?_
      refine wx_icmp_eq (tgt := 56) dX12_flap_50 (by decide) (fun c_50 => ?_) (fun c_50 => ?_)
      · replace h := it_t h c_50
        refine wx_aload_n dX12_flap_56 rfl ?_
        refine wx_getR dX12_flap_57 fl_X12_50 (sc_73 hS) rfl (rr_73_21 hS) ?_
        refine wx_aload_n dX12_flap_60 rfl ?_
        refine wx_getI dX12_flap_61 fl_X12_225 (sc_73 hS) rfl ?_
        refine wx_iload_n dX12_flap_64 rfl ?_
        obtain ⟨w_65, h⟩ := ok_some h
        refine wx_iast dX12_flap_65 (sc_87 hS) (ix_in w_65) ?_
        refine wx_namM (fun M_65 q_65 => ?_)
        replace h := nm_at h q_65
        refine wx_aload_n dX12_flap_66 rfl ?_
        refine wx_dup dX12_flap_67 rfl ?_
        refine wx_getI dX12_flap_68 fl_X12_225 (sc_73 hS) rfl ?_
        refine wx_iconst (v := 1) dX12_flap_71 (by decide) ?_
        refine wx_iadd dX12_flap_72 ?_
        refine wx_nami (fun v_73 q_73 => ?_)
        replace h := nm_at h q_73
        refine wx_putI dX12_flap_73 fl_X12_225 (sc_73 hS) (Or.inl rfl) rfl ⟨rfl, rfl⟩ ?_
        refine wx_namM (fun M_73 q_73 => ?_)
        replace h := nm_at h q_73
        refine wx_aload_n dX12_flap_76 rfl ?_
        refine wx_getI dX12_flap_77 fl_X12_225 (sc_73 hS) rfl ?_
        refine wx_iconst (v := 1) dX12_flap_80 (by decide) ?_
        refine wx_isub dX12_flap_81 ?_
        refine wx_iret dX12_flap_82 hcu hsu ?_
        obtain rfl := Option.some.inj h
        exact g
      · replace h := it_f h c_50
        refine wx_bipush (v := (-2)) dX12_flap_53 (by decide) ?_
        refine wx_iret dX12_flap_55 hcu hsu ?_
        obtain rfl := Option.some.inj h
        exact g
    · replace h := it_t h c_39
      refine wx_iconst (v := (-1)) dX12_flap_42 (by decide) ?_
      refine wx_iret dX12_flap_43 hcu hsu ?_
      obtain rfl := Option.some.inj h
      exact g
  · replace h := it_f h c_29
    refine wx_iconst (v := 0) dX12_flap_32 (by decide) ?_
    refine wx_iret dX12_flap_33 hcu hsu ?_
    obtain rfl := Option.some.inj h
    exact g
noncomputable def f_X12_flap (M : px_M) (p1 : Int32) : Option (Int32 × px_M) :=
  nm (px_u M 73 0 0) fun M_2 =>
  bd1 (f_X12_in p1 0 ((M_2 73 9) - 1)) fun e_14 =>
  if e_14 = 0 then
    f_X12_flap_25 M_2 p1 1
  else
    f_X12_flap_25 M_2 p1 0
theorem s_X12_flap {d : Nat} {X : Nat × (Nat → Int32)} {sh : px_Sh} {M : px_M} {L : px_L} {R : px_R} {n : Nat} {p1 : Int32} {e : Int32 × px_M} (hS : SR sh R) (hd : 1 ≤ d) (h : f_X12_flap M p1 = some e) : MX yX12_flap cX12_flap 2 (some .int) d 0 0 X [.ref 73, .int p1] sh M L R n (px_pu (some (.int e.1)) sh e.2 L R n) := by
  refine MX.of (by decide +kernel) (by exact Nat.le_of_ble_eq_true rfl) ?_
  have hcu : 0 ≤ 0 := Nat.zero_le _
  have hsu : 0 ≤ 0 := Nat.zero_le _
  have g : px_pu (some (.int e.1)) sh e.2 L R n (some (.int e.1)) sh e.2 L R n := ⟨rfl, rfl, rfl, rfl, rfl, rfl⟩
  unfold f_X12_flap at h
  refine wx_aload_n dX12_flap_0 rfl ?_
  refine wx_iconst (v := 0) dX12_flap_1 (by decide) ?_
  refine wx_putI dX12_flap_2 fl_X12_179 (sc_73 hS) (Or.inl rfl) rfl ⟨rfl, rfl⟩ ?_
  refine wx_namM (fun M_2 q_2 => ?_)
  replace h := nm_at h q_2
  refine wx_aload_n dX12_flap_5 rfl ?_
  refine wx_iload_n dX12_flap_6 rfl ?_
  refine wx_iconst (v := 0) dX12_flap_7 (by decide) ?_
  refine wx_aload_n dX12_flap_8 rfl ?_
  refine wx_getI dX12_flap_9 fl_X12_222 (sc_73 hS) rfl ?_
  refine wx_iconst (v := 1) dX12_flap_12 (by decide) ?_
  refine wx_isub dX12_flap_13 ?_
  obtain ⟨e_14, k_14, h⟩ := bd1_some h
  refine wx_cSi dX12_flap_14 ml_X12_203 my_X12_in sv_X12_in (s_X12_in (d := d - 1) hS (by omega) k_14) rfl (by omega) (by exact Nat.le_of_ble_eq_true rfl) hcu hsu ?_
  refine wx_if_ne (tgt := 24) dX12_flap_17 (by decide) (fun c_17 => ?_) (fun c_17 => ?_)
  · replace h := it_f h c_17
    refine wx_iconst (v := 0) dX12_flap_24 (by decide) ?_
    exact wx_sub (s_X12_flap_25 hS hd hcu hsu h g) (px_s rfl (px_s rfl px_0))
  · replace h := it_t h c_17
    refine wx_iconst (v := 1) dX12_flap_20 (by decide) ?_
    refine wx_goto (tgt := 25) dX12_flap_21 (by decide) ?_
    exact wx_sub (s_X12_flap_25 hS hd hcu hsu h g) (px_s rfl (px_s rfl px_0))
noncomputable def f_X12_bend_55 (M : px_M) : Option (Int32 × px_M) :=
  some (0, M)
theorem s_X12_bend_55 {M : px_M} {L : px_L} {R : px_R} {e : (Int32 × px_M)} (hS : SR sh R) (hd : 1 ≤ d) (hcu : cu ≤ mc) (hsu : su ≤ ms) (h : f_X12_bend_55 M = some e) (g : Post (some (.int (e.1))) sh (e.2) L R n) : WX RX12 cX12_bend 4 (some .int) ("bend", []) d mc ms X (px_QF Post mc ms) 55 [] [] sh M L R n cu su := by
  unfold f_X12_bend_55 at h
  refine wx_iconst (v := 0) dX12_bend_55 (by decide) ?_
  refine wx_iret dX12_bend_56 hcu hsu ?_
  obtain rfl := Option.some.inj h
  exact g
noncomputable def f_X12_bend_48 (M : px_M) (x1 : Int32) (x2 : Int32) (z0 : Int32) : Option (Int32 × px_M) :=
  bd1 (f_X12_bad M z0 2) fun e_49 =>
  if e_49.1 = 0 then
    ok (ix x1 4) <|
    if (e_49.2 89 x1.toNatClampNeg) = 0 then
      ok (ix x1 4) <|
      nm (e_49.2 88 x1.toNatClampNeg) fun v_75 =>
      ok (ix x1 4) <|
      nm (px_u e_49.2 88 x1.toNatClampNeg x2) fun M_82 =>
      some (v_75, M_82)
    else
      some ((-3), e_49.2)
  else
    f_X12_bend_55 e_49.2
theorem s_X12_bend_48 {x1 : Int32} {x2 : Int32} {z0 : Int32} {M : px_M} {L : px_L} {R : px_R} {e : (Int32 × px_M)} (hS : SR sh R) (hd : 1 ≤ d) (hcu : cu ≤ mc) (hsu : su ≤ ms) (h : f_X12_bend_48 M x1 x2 z0 = some e) (g : Post (some (.int (e.1))) sh (e.2) L R n) : WX RX12 cX12_bend 4 (some .int) ("bend", []) d mc ms X (px_QF Post mc ms) 48 [(0, .ref 73), (1, .int x1), (2, .int x2)] [.int z0, .ref 73] sh M L R n cu su := by
  unfold f_X12_bend_48 at h
  refine wx_iconst (v := 2) dX12_bend_48 (by decide) ?_
  obtain ⟨e_49, k_49, h⟩ := bd1_some h
  refine wx_cVi dX12_bend_49 ml_X12_207 my_X12_bad iv_X12_bad (sc_73 hS) (by decide) (s_X12_bad (d := d - 1) hS (by omega) k_49) rfl (by omega) (by exact Nat.le_of_ble_eq_true rfl) hcu hsu ?_
  refine wx_if_eq (tgt := 57) dX12_bend_52 (by decide) (fun c_52 => ?_) (fun c_52 => ?_)
  · replace h := it_t h c_52
    refine wx_aload_n dX12_bend_57 rfl ?_
    refine wx_getR dX12_bend_58 fl_X12_56 (sc_73 hS) rfl (rr_73_23 hS) ?_
    refine wx_iload_n dX12_bend_61 rfl ?_
    obtain ⟨w_62, h⟩ := ok_some h
    refine wx_bald dX12_bend_62 (sc_89 hS) (ix_in w_62) ?_
    refine wx_if_eq (tgt := 69) dX12_bend_63 (by decide) (fun c_63 => ?_) (fun c_63 => ?_)
    · replace h := it_t h c_63
      refine wx_aload_n dX12_bend_69 rfl ?_
      refine wx_getR dX12_bend_70 fl_X12_53 (sc_73 hS) rfl (rr_73_22 hS) ?_
      refine wx_iload_n dX12_bend_73 rfl ?_
      obtain ⟨w_74, h⟩ := ok_some h
      refine wx_iald dX12_bend_74 (sc_88 hS) (ix_in w_74) ?_
      refine wx_nami (fun v_75 q_75 => ?_)
      replace h := nm_at h q_75
      refine wx_istore_n (lv' := [(3, _), (0, _), (1, _), (2, _)]) dX12_bend_75 (by decide) rfl ?_
      refine wx_aload_n dX12_bend_76 rfl ?_
      refine wx_getR dX12_bend_77 fl_X12_53 (sc_73 hS) rfl (rr_73_22 hS) ?_
      refine wx_iload_n dX12_bend_80 rfl ?_
      refine wx_iload_n dX12_bend_81 rfl ?_
      obtain ⟨w_82, h⟩ := ok_some h
      refine wx_iast dX12_bend_82 (sc_88 hS) (ix_in w_82) ?_
      refine wx_namM (fun M_82 q_82 => ?_)
      replace h := nm_at h q_82
      refine wx_iload_n dX12_bend_83 rfl ?_
      refine wx_iret dX12_bend_84 hcu hsu ?_
      obtain rfl := Option.some.inj h
      exact g
    · replace h := it_f h c_63
      refine wx_bipush (v := (-3)) dX12_bend_66 (by decide) ?_
      refine wx_iret dX12_bend_68 hcu hsu ?_
      obtain rfl := Option.some.inj h
      exact g
  · replace h := it_f h c_52
    exact wx_sub (s_X12_bend_55 hS hd hcu hsu h g) px_0
noncomputable def f_X12_bend_25 (M : px_M) (x1 : Int32) (x2 : Int32) (z0 : Int32) : Option (Int32 × px_M) :=
  bd1 (f_X12_bad M z0 1) fun e_26 =>
  if e_26.1 = 0 then
    bd1 (f_X12_in x2 (-2) 2) fun e_37 =>
    if e_37 = 0 then
      f_X12_bend_48 e_26.2 x1 x2 1
    else
      f_X12_bend_48 e_26.2 x1 x2 0
  else
    f_X12_bend_55 e_26.2
theorem s_X12_bend_25 {x1 : Int32} {x2 : Int32} {z0 : Int32} {M : px_M} {L : px_L} {R : px_R} {e : (Int32 × px_M)} (hS : SR sh R) (hd : 1 ≤ d) (hcu : cu ≤ mc) (hsu : su ≤ ms) (h : f_X12_bend_25 M x1 x2 z0 = some e) (g : Post (some (.int (e.1))) sh (e.2) L R n) : WX RX12 cX12_bend 4 (some .int) ("bend", []) d mc ms X (px_QF Post mc ms) 25 [(0, .ref 73), (1, .int x1), (2, .int x2)] [.int z0, .ref 73] sh M L R n cu su := by
  unfold f_X12_bend_25 at h
  refine wx_iconst (v := 1) dX12_bend_25 (by decide) ?_
  obtain ⟨e_26, k_26, h⟩ := bd1_some h
  refine wx_cVi dX12_bend_26 ml_X12_207 my_X12_bad iv_X12_bad (sc_73 hS) (by decide) (s_X12_bad (d := d - 1) hS (by omega) k_26) rfl (by omega) (by exact Nat.le_of_ble_eq_true rfl) hcu hsu ?_
  refine wx_if_ne (tgt := 55) dX12_bend_29 (by decide) (fun c_29 => ?_) (fun c_29 => ?_)
  · replace h := it_f h c_29
    exact wx_sub (s_X12_bend_55 hS hd hcu hsu h g) px_0
  · replace h := it_t h c_29
    refine wx_aload_n dX12_bend_32 rfl ?_
    refine wx_iload_n dX12_bend_33 rfl ?_
    refine wx_bipush (v := (-2)) dX12_bend_34 (by decide) ?_
    refine wx_iconst (v := 2) dX12_bend_36 (by decide) ?_
    obtain ⟨e_37, k_37, h⟩ := bd1_some h
    refine wx_cSi dX12_bend_37 ml_X12_203 my_X12_in sv_X12_in (s_X12_in (d := d - 1) hS (by omega) k_37) rfl (by omega) (by exact Nat.le_of_ble_eq_true rfl) hcu hsu ?_
    refine wx_if_ne (tgt := 47) dX12_bend_40 (by decide) (fun c_40 => ?_) (fun c_40 => ?_)
    · replace h := it_f h c_40
      refine wx_iconst (v := 0) dX12_bend_47 (by decide) ?_
      exact wx_sub (s_X12_bend_48 hS hd hcu hsu h g) (px_s rfl (px_s rfl (px_s rfl px_0)))
    · replace h := it_t h c_40
      refine wx_iconst (v := 1) dX12_bend_43 (by decide) ?_
      refine wx_goto (tgt := 48) dX12_bend_44 (by decide) ?_
      exact wx_sub (s_X12_bend_48 hS hd hcu hsu h g) (px_s rfl (px_s rfl (px_s rfl px_0)))
noncomputable def f_X12_bend (M : px_M) (p1 : Int32) (p2 : Int32) : Option (Int32 × px_M) :=
  nm (px_u M 73 0 0) fun M_2 =>
  bd1 (f_X12_in p1 0 ((M_2 73 10) - 1)) fun e_14 =>
  if e_14 = 0 then
    f_X12_bend_25 M_2 p1 p2 1
  else
    f_X12_bend_25 M_2 p1 p2 0
theorem s_X12_bend {d : Nat} {X : Nat × (Nat → Int32)} {sh : px_Sh} {M : px_M} {L : px_L} {R : px_R} {n : Nat} {p1 : Int32} {p2 : Int32} {e : Int32 × px_M} (hS : SR sh R) (hd : 1 ≤ d) (h : f_X12_bend M p1 p2 = some e) : MX yX12_bend cX12_bend 4 (some .int) d 0 0 X [.ref 73, .int p1, .int p2] sh M L R n (px_pu (some (.int e.1)) sh e.2 L R n) := by
  refine MX.of (by decide +kernel) (by exact Nat.le_of_ble_eq_true rfl) ?_
  have hcu : 0 ≤ 0 := Nat.zero_le _
  have hsu : 0 ≤ 0 := Nat.zero_le _
  have g : px_pu (some (.int e.1)) sh e.2 L R n (some (.int e.1)) sh e.2 L R n := ⟨rfl, rfl, rfl, rfl, rfl, rfl⟩
  unfold f_X12_bend at h
  refine wx_aload_n dX12_bend_0 rfl ?_
  refine wx_iconst (v := 0) dX12_bend_1 (by decide) ?_
  refine wx_putI dX12_bend_2 fl_X12_179 (sc_73 hS) (Or.inl rfl) rfl ⟨rfl, rfl⟩ ?_
  refine wx_namM (fun M_2 q_2 => ?_)
  replace h := nm_at h q_2
  refine wx_aload_n dX12_bend_5 rfl ?_
  refine wx_iload_n dX12_bend_6 rfl ?_
  refine wx_iconst (v := 0) dX12_bend_7 (by decide) ?_
  refine wx_aload_n dX12_bend_8 rfl ?_
  refine wx_getI dX12_bend_9 fl_X12_225 (sc_73 hS) rfl ?_
  refine wx_iconst (v := 1) dX12_bend_12 (by decide) ?_
  refine wx_isub dX12_bend_13 ?_
  obtain ⟨e_14, k_14, h⟩ := bd1_some h
  refine wx_cSi dX12_bend_14 ml_X12_203 my_X12_in sv_X12_in (s_X12_in (d := d - 1) hS (by omega) k_14) rfl (by omega) (by exact Nat.le_of_ble_eq_true rfl) hcu hsu ?_
  refine wx_if_ne (tgt := 24) dX12_bend_17 (by decide) (fun c_17 => ?_) (fun c_17 => ?_)
  · replace h := it_f h c_17
    refine wx_iconst (v := 0) dX12_bend_24 (by decide) ?_
    exact wx_sub (s_X12_bend_25 hS hd hcu hsu h g) (px_s rfl (px_s rfl (px_s rfl px_0)))
  · replace h := it_t h c_17
    refine wx_iconst (v := 1) dX12_bend_20 (by decide) ?_
    refine wx_goto (tgt := 25) dX12_bend_21 (by decide) ?_
    exact wx_sub (s_X12_bend_25 hS hd hcu hsu h g) (px_s rfl (px_s rfl (px_s rfl px_0)))
noncomputable def f_X12_stuck_25 (M : px_M) (x1 : Int32) (x2 : Int32) (z0 : Int32) : Option (Int32 × px_M) :=
  bd1 (f_X12_bad M z0 1) fun e_26 =>
  if e_26.1 = 0 then
    ok (ix x1 4) <|
    nm (e_26.2 89 x1.toNatClampNeg) fun v_40 =>
    ok (ix x1 4) <|
    ok (zb x2) <|
    nm (px_u e_26.2 89 x1.toNatClampNeg x2) fun M_47 =>
    ok (zb v_40) <|
    some (v_40, M_47)
  else
    some (0, e_26.2)
theorem s_X12_stuck_25 {x1 : Int32} {x2 : Int32} {z0 : Int32} {M : px_M} {L : px_L} {R : px_R} {e : (Int32 × px_M)} (hS : SR sh R) (hd : 1 ≤ d) (hcu : cu ≤ mc) (hsu : su ≤ ms) (h : f_X12_stuck_25 M x1 x2 z0 = some e) (g : Post (some (.int (e.1))) sh (e.2) L R n) : WX RX12 cX12_stuck 4 (some .boolean) ("stuck", []) d mc ms X (px_QF Post mc ms) 25 [(0, .ref 73), (1, .int x1), (2, .int x2)] [.int z0, .ref 73] sh M L R n cu su := by
  unfold f_X12_stuck_25 at h
  refine wx_iconst (v := 1) dX12_stuck_25 (by decide) ?_
  obtain ⟨e_26, k_26, h⟩ := bd1_some h
  refine wx_cVi dX12_stuck_26 ml_X12_207 my_X12_bad iv_X12_bad (sc_73 hS) (by decide) (s_X12_bad (d := d - 1) hS (by omega) k_26) rfl (by omega) (by exact Nat.le_of_ble_eq_true rfl) hcu hsu ?_
  refine wx_if_eq (tgt := 34) dX12_stuck_29 (by decide) (fun c_29 => ?_) (fun c_29 => ?_)
  · replace h := it_t h c_29
    refine wx_aload_n dX12_stuck_34 rfl ?_
    refine wx_getR dX12_stuck_35 fl_X12_56 (sc_73 hS) rfl (rr_73_23 hS) ?_
    refine wx_iload_n dX12_stuck_38 rfl ?_
    obtain ⟨w_39, h⟩ := ok_some h
    refine wx_bald dX12_stuck_39 (sc_89 hS) (ix_in w_39) ?_
    refine wx_nami (fun v_40 q_40 => ?_)
    replace h := nm_at h q_40
    refine wx_istore_n (lv' := [(3, _), (0, _), (1, _), (2, _)]) dX12_stuck_40 (by decide) rfl ?_
    refine wx_aload_n dX12_stuck_41 rfl ?_
    refine wx_getR dX12_stuck_42 fl_X12_56 (sc_73 hS) rfl (rr_73_23 hS) ?_
    refine wx_iload_n dX12_stuck_45 rfl ?_
    refine wx_iload_n dX12_stuck_46 rfl ?_
    obtain ⟨w_47, h⟩ := ok_some h
    obtain ⟨wz_47, h⟩ := ok_some h
    refine wx_bast dX12_stuck_47 (sc_89 hS) (ix_in w_47) (zb_n wz_47) ?_
    refine wx_namM (fun M_47 q_47 => ?_)
    replace h := nm_at h q_47
    refine wx_iload_n dX12_stuck_48 rfl ?_
    obtain ⟨w_49, h⟩ := ok_some h
    refine wx_zret dX12_stuck_49 (zb_n w_49) hcu hsu ?_
    obtain rfl := Option.some.inj h
    exact g
  · replace h := it_f h c_29
    refine wx_iconst (v := 0) dX12_stuck_32 (by decide) ?_
    refine wx_zret dX12_stuck_33 rfl hcu hsu ?_
    obtain rfl := Option.some.inj h
    exact g
noncomputable def f_X12_stuck (M : px_M) (p1 : Int32) (p2 : Int32) : Option (Int32 × px_M) :=
  nm (px_u M 73 0 0) fun M_2 =>
  bd1 (f_X12_in p1 0 ((M_2 73 10) - 1)) fun e_14 =>
  if e_14 = 0 then
    f_X12_stuck_25 M_2 p1 p2 1
  else
    f_X12_stuck_25 M_2 p1 p2 0
theorem s_X12_stuck {d : Nat} {X : Nat × (Nat → Int32)} {sh : px_Sh} {M : px_M} {L : px_L} {R : px_R} {n : Nat} {p1 : Int32} {p2 : Int32} {e : Int32 × px_M} (hS : SR sh R) (hd : 1 ≤ d) (h : f_X12_stuck M p1 p2 = some e) : MX yX12_stuck cX12_stuck 4 (some .boolean) d 0 0 X [.ref 73, .int p1, .int p2] sh M L R n (px_pu (some (.int e.1)) sh e.2 L R n) := by
  refine MX.of (by decide +kernel) (by exact Nat.le_of_ble_eq_true rfl) ?_
  have hcu : 0 ≤ 0 := Nat.zero_le _
  have hsu : 0 ≤ 0 := Nat.zero_le _
  have g : px_pu (some (.int e.1)) sh e.2 L R n (some (.int e.1)) sh e.2 L R n := ⟨rfl, rfl, rfl, rfl, rfl, rfl⟩
  unfold f_X12_stuck at h
  refine wx_aload_n dX12_stuck_0 rfl ?_
  refine wx_iconst (v := 0) dX12_stuck_1 (by decide) ?_
  refine wx_putI dX12_stuck_2 fl_X12_179 (sc_73 hS) (Or.inl rfl) rfl ⟨rfl, rfl⟩ ?_
  refine wx_namM (fun M_2 q_2 => ?_)
  replace h := nm_at h q_2
  refine wx_aload_n dX12_stuck_5 rfl ?_
  refine wx_iload_n dX12_stuck_6 rfl ?_
  refine wx_iconst (v := 0) dX12_stuck_7 (by decide) ?_
  refine wx_aload_n dX12_stuck_8 rfl ?_
  refine wx_getI dX12_stuck_9 fl_X12_225 (sc_73 hS) rfl ?_
  refine wx_iconst (v := 1) dX12_stuck_12 (by decide) ?_
  refine wx_isub dX12_stuck_13 ?_
  obtain ⟨e_14, k_14, h⟩ := bd1_some h
  refine wx_cSi dX12_stuck_14 ml_X12_203 my_X12_in sv_X12_in (s_X12_in (d := d - 1) hS (by omega) k_14) rfl (by omega) (by exact Nat.le_of_ble_eq_true rfl) hcu hsu ?_
  refine wx_if_ne (tgt := 24) dX12_stuck_17 (by decide) (fun c_17 => ?_) (fun c_17 => ?_)
  · replace h := it_f h c_17
    refine wx_iconst (v := 0) dX12_stuck_24 (by decide) ?_
    exact wx_sub (s_X12_stuck_25 hS hd hcu hsu h g) (px_s rfl (px_s rfl (px_s rfl px_0)))
  · replace h := it_t h c_17
    refine wx_iconst (v := 1) dX12_stuck_20 (by decide) ?_
    refine wx_goto (tgt := 25) dX12_stuck_21 (by decide) ?_
    exact wx_sub (s_X12_stuck_25 hS hd hcu hsu h g) (px_s rfl (px_s rfl (px_s rfl px_0)))
noncomputable def f_X12_weights_33 (M : px_M) (x1 : Int32) (x2 : Int32) (z0 : Int32) : Option (px_M) :=
  bd1 (f_X12_bad M z0 1) fun e_34 =>
  if e_34.1 = 0 then
    nm (px_u e_34.2 73 11 x1) fun M_43 =>
    nm (px_u M_43 73 12 x2) fun M_48 =>
    some M_48
  else
    some e_34.2
theorem s_X12_weights_33 {x1 : Int32} {x2 : Int32} {z0 : Int32} {M : px_M} {L : px_L} {R : px_R} {e : (px_M)} (hS : SR sh R) (hd : 1 ≤ d) (hcu : cu ≤ mc) (hsu : su ≤ ms) (h : f_X12_weights_33 M x1 x2 z0 = some e) (g : Post none sh e L R n) : WX RX12 cX12_weights 3 none ("weights", []) d mc ms X (px_QF Post mc ms) 33 [(0, .ref 73), (1, .int x1), (2, .int x2)] [.int z0, .ref 73] sh M L R n cu su := by
  unfold f_X12_weights_33 at h
  refine wx_iconst (v := 1) dX12_weights_33 (by decide) ?_
  obtain ⟨e_34, k_34, h⟩ := bd1_some h
  refine wx_cVi dX12_weights_34 ml_X12_207 my_X12_bad iv_X12_bad (sc_73 hS) (by decide) (s_X12_bad (d := d - 1) hS (by omega) k_34) rfl (by omega) (by exact Nat.le_of_ble_eq_true rfl) hcu hsu ?_
  refine wx_if_eq (tgt := 41) dX12_weights_37 (by decide) (fun c_37 => ?_) (fun c_37 => ?_)
  · replace h := it_t h c_37
    refine wx_aload_n dX12_weights_41 rfl ?_
    refine wx_iload_n dX12_weights_42 rfl ?_
    refine wx_putI dX12_weights_43 fl_X12_231 (sc_73 hS) (Or.inl rfl) rfl ⟨rfl, rfl⟩ ?_
    refine wx_namM (fun M_43 q_43 => ?_)
    replace h := nm_at h q_43
    refine wx_aload_n dX12_weights_46 rfl ?_
    refine wx_iload_n dX12_weights_47 rfl ?_
    refine wx_putI dX12_weights_48 fl_X12_234 (sc_73 hS) (Or.inl rfl) rfl ⟨rfl, rfl⟩ ?_
    refine wx_namM (fun M_48 q_48 => ?_)
    replace h := nm_at h q_48
    refine wx_vret dX12_weights_51 hcu hsu ?_
    obtain rfl := Option.some.inj h
    exact g
  · replace h := it_f h c_37
    refine wx_vret dX12_weights_40 hcu hsu ?_
    obtain rfl := Option.some.inj h
    exact g
noncomputable def f_X12_weights_28 (M : px_M) (x1 : Int32) (x2 : Int32) : Option (px_M) :=
  f_X12_weights_33 M x1 x2 1
theorem s_X12_weights_28 {x1 : Int32} {x2 : Int32} {M : px_M} {L : px_L} {R : px_R} {e : (px_M)} (hS : SR sh R) (hd : 1 ≤ d) (hcu : cu ≤ mc) (hsu : su ≤ ms) (h : f_X12_weights_28 M x1 x2 = some e) (g : Post none sh e L R n) : WX RX12 cX12_weights 3 none ("weights", []) d mc ms X (px_QF Post mc ms) 28 [(0, .ref 73), (1, .int x1), (2, .int x2)] [.ref 73] sh M L R n cu su := by
  unfold f_X12_weights_28 at h
  refine wx_iconst (v := 1) dX12_weights_28 (by decide) ?_
  refine wx_goto (tgt := 33) dX12_weights_29 (by decide) ?_
  exact wx_sub (s_X12_weights_33 hS hd hcu hsu h g) (px_s rfl (px_s rfl (px_s rfl px_0)))
noncomputable def f_X12_weights (M : px_M) (p1 : Int32) (p2 : Int32) : Option (px_M) :=
  nm (px_u M 73 0 0) fun M_2 =>
  bd1 (f_X12_in p1 (-20) 20) fun e_11 =>
  if e_11 = 0 then
    f_X12_weights_28 M_2 p1 p2
  else
    bd1 (f_X12_in p2 (-20) 20) fun e_22 =>
    if e_22 = 0 then
      f_X12_weights_28 M_2 p1 p2
    else
      f_X12_weights_33 M_2 p1 p2 0
theorem s_X12_weights {d : Nat} {X : Nat × (Nat → Int32)} {sh : px_Sh} {M : px_M} {L : px_L} {R : px_R} {n : Nat} {p1 : Int32} {p2 : Int32} {e : px_M} (hS : SR sh R) (hd : 1 ≤ d) (h : f_X12_weights M p1 p2 = some e) : MX yX12_weights cX12_weights 3 none d 0 0 X [.ref 73, .int p1, .int p2] sh M L R n (px_pu none sh e L R n) := by
  refine MX.of (by decide +kernel) (by exact Nat.le_of_ble_eq_true rfl) ?_
  have hcu : 0 ≤ 0 := Nat.zero_le _
  have hsu : 0 ≤ 0 := Nat.zero_le _
  have g : px_pu none sh e L R n none sh e L R n := ⟨rfl, rfl, rfl, rfl, rfl, rfl⟩
  unfold f_X12_weights at h
  refine wx_aload_n dX12_weights_0 rfl ?_
  refine wx_iconst (v := 0) dX12_weights_1 (by decide) ?_
  refine wx_putI dX12_weights_2 fl_X12_179 (sc_73 hS) (Or.inl rfl) rfl ⟨rfl, rfl⟩ ?_
  refine wx_namM (fun M_2 q_2 => ?_)
  replace h := nm_at h q_2
  refine wx_aload_n dX12_weights_5 rfl ?_
  refine wx_iload_n dX12_weights_6 rfl ?_
  refine wx_bipush (v := (-20)) dX12_weights_7 (by decide) ?_
  refine wx_bipush (v := 20) dX12_weights_9 (by decide) ?_
  obtain ⟨e_11, k_11, h⟩ := bd1_some h
  refine wx_cSi dX12_weights_11 ml_X12_203 my_X12_in sv_X12_in (s_X12_in (d := d - 1) hS (by omega) k_11) rfl (by omega) (by exact Nat.le_of_ble_eq_true rfl) hcu hsu ?_
  refine wx_if_eq (tgt := 28) dX12_weights_14 (by decide) (fun c_14 => ?_) (fun c_14 => ?_)
  · replace h := it_t h c_14
    exact wx_sub (s_X12_weights_28 hS hd hcu hsu h g) (px_s rfl (px_s rfl (px_s rfl px_0)))
  · replace h := it_f h c_14
    refine wx_iload_n dX12_weights_17 rfl ?_
    refine wx_bipush (v := (-20)) dX12_weights_18 (by decide) ?_
    refine wx_bipush (v := 20) dX12_weights_20 (by decide) ?_
    obtain ⟨e_22, k_22, h⟩ := bd1_some h
    refine wx_cSi dX12_weights_22 ml_X12_203 my_X12_in sv_X12_in (s_X12_in (d := d - 1) hS (by omega) k_22) rfl (by omega) (by exact Nat.le_of_ble_eq_true rfl) hcu hsu ?_
    refine wx_if_ne (tgt := 32) dX12_weights_25 (by decide) (fun c_25 => ?_) (fun c_25 => ?_)
    · replace h := it_f h c_25
      refine wx_iconst (v := 0) dX12_weights_32 (by decide) ?_
      exact wx_sub (s_X12_weights_33 hS hd hcu hsu h g) (px_s rfl (px_s rfl (px_s rfl px_0)))
    · replace h := it_t h c_25
      exact wx_sub (s_X12_weights_28 hS hd hcu hsu h g) (px_s rfl (px_s rfl (px_s rfl px_0)))
noncomputable def f_X12_slantOf_58 (M : px_M) (z0 : Int32) : Option (Int32) :=
  some z0
theorem s_X12_slantOf_58 {z0 : Int32} {M : px_M} {L : px_L} {R : px_R} {e : (Int32)} (hS : SR sh R) (hd : 1 ≤ d) (hcu : cu ≤ mc) (hsu : su ≤ ms) (h : f_X12_slantOf_58 M z0 = some e) (g : Post (some (.int e)) sh M L R n) : WX RX12 cX12_slantOf 5 (some .int) ("slantOf", []) d mc ms X (px_QF Post mc ms) 58 [] [.int z0] sh M L R n cu su := by
  unfold f_X12_slantOf_58 at h
  refine wx_iret dX12_slantOf_58 hcu hsu ?_
  obtain rfl := Option.some.inj h
  exact g
noncomputable def f_X12_slantOf_29 (M : px_M) (z0 : Int32) (z1 : Int32) : Option (Int32) :=
  nm (z1 + z0) fun v_30 =>
  if (-8) ≤ v_30 then
    if v_30 ≤ 8 then
      f_X12_slantOf_58 M v_30
    else
      f_X12_slantOf_58 M 8
  else
    f_X12_slantOf_58 M (-8)
theorem s_X12_slantOf_29 {z0 : Int32} {z1 : Int32} {M : px_M} {L : px_L} {R : px_R} {e : (Int32)} (hS : SR sh R) (hd : 1 ≤ d) (hcu : cu ≤ mc) (hsu : su ≤ ms) (h : f_X12_slantOf_29 M z0 z1 = some e) (g : Post (some (.int e)) sh M L R n) : WX RX12 cX12_slantOf 5 (some .int) ("slantOf", []) d mc ms X (px_QF Post mc ms) 29 [] [.int z0, .int z1] sh M L R n cu su := by
  unfold f_X12_slantOf_29 at h
  refine wx_iadd dX12_slantOf_29 ?_
  refine wx_nami (fun v_30 q_30 => ?_)
  replace h := nm_at h q_30
  refine wx_istore (lv' := [(4, _)]) dX12_slantOf_30 (by decide) rfl ?_
  refine wx_iload dX12_slantOf_32 rfl ?_
  refine wx_bipush (v := (-8)) dX12_slantOf_34 (by decide) ?_
  refine wx_icmp_ge (tgt := 44) dX12_slantOf_36 (by decide) (fun c_36 => ?_) (fun c_36 => ?_)
  · replace h := it_t h c_36
    refine wx_iload dX12_slantOf_44 rfl ?_
    refine wx_bipush (v := 8) dX12_slantOf_46 (by decide) ?_
    refine wx_icmp_le (tgt := 56) dX12_slantOf_48 (by decide) (fun c_48 => ?_) (fun c_48 => ?_)
    · replace h := it_t h c_48
      refine wx_iload dX12_slantOf_56 rfl ?_
      exact wx_sub (s_X12_slantOf_58 hS hd hcu hsu h g) px_0
    · replace h := it_f h c_48
      refine wx_bipush (v := 8) dX12_slantOf_51 (by decide) ?_
      refine wx_goto (tgt := 58) dX12_slantOf_53 (by decide) ?_
      exact wx_sub (s_X12_slantOf_58 hS hd hcu hsu h g) px_0
  · replace h := it_f h c_36
    refine wx_bipush (v := (-8)) dX12_slantOf_39 (by decide) ?_
    refine wx_goto (tgt := 58) dX12_slantOf_41 (by decide) ?_
    exact wx_sub (s_X12_slantOf_58 hS hd hcu hsu h g) px_0
noncomputable def f_X12_slantOf (M : px_M) (p1 : Int32) (p2 : Int32) : Option (Int32) :=
  bd1 (f_X12_flapOf M p1) fun e_2 =>
  ok (ix p1 16) <|
  if e_2 = (-1) then
    f_X12_slantOf_29 M 0 (p2 + (M 84 p1.toNatClampNeg))
  else
    ok (ix e_2 4) <|
    f_X12_slantOf_29 M (M 88 e_2.toNatClampNeg) (p2 + (M 84 p1.toNatClampNeg))
theorem s_X12_slantOf {d : Nat} {X : Nat × (Nat → Int32)} {sh : px_Sh} {M : px_M} {L : px_L} {R : px_R} {n : Nat} {p1 : Int32} {p2 : Int32} {e : Int32} (hS : SR sh R) (hd : 1 ≤ d) (h : f_X12_slantOf M p1 p2 = some e) : MX yX12_slantOf cX12_slantOf 5 (some .int) d 0 0 X [.ref 73, .int p1, .int p2] sh M L R n (px_pu (some (.int e)) sh M L R n) := by
  refine MX.of (by decide +kernel) (by exact Nat.le_of_ble_eq_true rfl) ?_
  have hcu : 0 ≤ 0 := Nat.zero_le _
  have hsu : 0 ≤ 0 := Nat.zero_le _
  have g : px_pu (some (.int e)) sh M L R n (some (.int e)) sh M L R n := ⟨rfl, rfl, rfl, rfl, rfl, rfl⟩
  unfold f_X12_slantOf at h
  refine wx_aload_n dX12_slantOf_0 rfl ?_
  refine wx_iload_n dX12_slantOf_1 rfl ?_
  obtain ⟨e_2, k_2, h⟩ := bd1_some h
  refine wx_cVi dX12_slantOf_2 ml_X12_228 my_X12_flapOf iv_X12_flapOf (sc_73 hS) (by decide) (s_X12_flapOf (d := d - 1) hS (by omega) k_2) rfl (by omega) (by exact Nat.le_of_ble_eq_true rfl) hcu hsu ?_
  refine wx_istore_n (lv' := [(3, _), (0, _), (1, _), (2, _)]) dX12_slantOf_5 (by decide) rfl ?_
  refine wx_iload_n dX12_slantOf_6 rfl ?_
  refine wx_aload_n dX12_slantOf_7 rfl ?_
  refine wx_getR dX12_slantOf_8 fl_X12_41 (sc_73 hS) rfl (rr_73_18 hS) ?_
  refine wx_iload_n dX12_slantOf_11 rfl ?_
  obtain ⟨w_12, h⟩ := ok_some h
  refine wx_iald dX12_slantOf_12 (sc_84 hS) (ix_in w_12) ?_
  refine wx_iadd dX12_slantOf_13 ?_
  refine wx_iload_n dX12_slantOf_14 rfl ?_
  refine wx_iconst (v := (-1)) dX12_slantOf_15 (by decide) ?_
  refine wx_icmp_ne (tgt := 23) dX12_slantOf_16 (by decide) (fun c_16 => ?_) (fun c_16 => ?_)
  · replace h := it_f h c_16
    refine wx_aload_n dX12_slantOf_23 rfl ?_
    refine wx_getR dX12_slantOf_24 fl_X12_53 (sc_73 hS) rfl (rr_73_22 hS) ?_
    refine wx_iload_n dX12_slantOf_27 rfl ?_
    obtain ⟨w_28, h⟩ := ok_some h
    refine wx_iald dX12_slantOf_28 (sc_88 hS) (ix_in w_28) ?_
    exact wx_sub (s_X12_slantOf_29 hS hd hcu hsu h g) px_0
  · replace h := it_t h c_16
    refine wx_iconst (v := 0) dX12_slantOf_19 (by decide) ?_
    refine wx_goto (tgt := 29) dX12_slantOf_20 (by decide) ?_
    exact wx_sub (s_X12_slantOf_29 hS hd hcu hsu h g) px_0
noncomputable def f_X12_amount_10 (z0 : Int32) : Option (Int32) :=
  some z0
theorem s_X12_amount_10 {z0 : Int32} {M : px_M} {L : px_L} {R : px_R} {e : (Int32)} (hS : SR sh R) (hd : 0 ≤ d) (hcu : cu ≤ mc) (hsu : su ≤ ms) (h : f_X12_amount_10 z0 = some e) (g : Post (some (.int e)) sh M L R n) : WX RX12 cX12_amount 1 (some .int) ("amount", []) d mc ms X (px_QF Post mc ms) 10 [] [.int z0] sh M L R n cu su := by
  unfold f_X12_amount_10 at h
  refine wx_iret dX12_amount_10 hcu hsu ?_
  obtain rfl := Option.some.inj h
  exact g
noncomputable def f_X12_amount (p0 : Int32) : Option (Int32) :=
  if 0 ≤ p0 then
    f_X12_amount_10 p0
  else
    f_X12_amount_10 (-p0)
theorem s_X12_amount {d : Nat} {X : Nat × (Nat → Int32)} {sh : px_Sh} {M : px_M} {L : px_L} {R : px_R} {n : Nat} {p0 : Int32} {e : Int32} (hS : SR sh R) (hd : 0 ≤ d) (h : f_X12_amount p0 = some e) : MX yX12_amount cX12_amount 1 (some .int) d 0 0 X [.int p0] sh M L R n (px_pu (some (.int e)) sh M L R n) := by
  refine MX.of (by decide +kernel) (by exact Nat.le_of_ble_eq_true rfl) ?_
  have hcu : 0 ≤ 0 := Nat.zero_le _
  have hsu : 0 ≤ 0 := Nat.zero_le _
  have g : px_pu (some (.int e)) sh M L R n (some (.int e)) sh M L R n := ⟨rfl, rfl, rfl, rfl, rfl, rfl⟩
  unfold f_X12_amount at h
  refine wx_iload_n dX12_amount_0 rfl ?_
  refine wx_if_ge (tgt := 9) dX12_amount_1 (by decide) (fun c_1 => ?_) (fun c_1 => ?_)
  · replace h := it_t h c_1
    refine wx_iload_n dX12_amount_9 rfl ?_
    exact wx_sub (s_X12_amount_10 hS hd hcu hsu h g) px_0
  · replace h := it_f h c_1
    refine wx_iload_n dX12_amount_4 rfl ?_
    refine wx_ineg dX12_amount_5 ?_
    refine wx_goto (tgt := 10) dX12_amount_6 (by decide) ?_
    exact wx_sub (s_X12_amount_10 hS hd hcu hsu h g) px_0
noncomputable def f_X12_cos (p0 : Int32) : Option (Int64) :=
  bd1 (f_X12_amount p0) fun e_1 =>
  if e_1 = 0 then
    some 1000
  else if e_1 = 1 then
    some 985
  else if e_1 = 2 then
    some 940
  else if e_1 = 3 then
    some 866
  else if e_1 = 4 then
    some 766
  else if e_1 = 5 then
    some 643
  else if e_1 = 6 then
    some 500
  else if e_1 = 7 then
    some 342
  else some 174
theorem s_X12_cos {d : Nat} {X : Nat × (Nat → Int32)} {sh : px_Sh} {M : px_M} {L : px_L} {R : px_R} {n : Nat} {p0 : Int32} {e : Int64} (hS : SR sh R) (hd : 1 ≤ d) (h : f_X12_cos p0 = some e) : MX yX12_cos cX12_cos 1 (some .long) d 0 0 X [.int p0] sh M L R n (px_pu (some (.long e)) sh M L R n) := by
  refine MX.of (by decide +kernel) (by exact Nat.le_of_ble_eq_true rfl) ?_
  have hcu : 0 ≤ 0 := Nat.zero_le _
  have hsu : 0 ≤ 0 := Nat.zero_le _
  have g : px_pu (some (.long e)) sh M L R n (some (.long e)) sh M L R n := ⟨rfl, rfl, rfl, rfl, rfl, rfl⟩
  unfold f_X12_cos at h
  refine wx_iload_n dX12_cos_0 rfl ?_
  obtain ⟨e_1, k_1, h⟩ := bd1_some h
  refine wx_cSi dX12_cos_1 ml_X12_237 my_X12_amount sv_X12_amount (s_X12_amount (d := d - 1) hS (by omega) k_1) rfl (by omega) (by exact Nat.le_of_ble_eq_true rfl) hcu hsu ?_
  by_cases c_4_0 : e_1 = 0
  · replace h := it_t h c_4_0
    refine wx_ts (tgt := 52) dX12_cos_4 c_4_0 (by decide) (by decide) rfl (by decide) ?_
    refine wx_ldc2 dX12_cos_52 kl_X12_240 ?_
    refine wx_lret dX12_cos_55 hcu hsu ?_
    obtain rfl := Option.some.inj h
    exact g
  replace h := it_f h c_4_0
  by_cases c_4_1 : e_1 = 1
  · replace h := it_t h c_4_1
    refine wx_ts (tgt := 56) dX12_cos_4 c_4_1 (by decide) (by decide) rfl (by decide) ?_
    refine wx_ldc2 dX12_cos_56 kl_X12_242 ?_
    refine wx_lret dX12_cos_59 hcu hsu ?_
    obtain rfl := Option.some.inj h
    exact g
  replace h := it_f h c_4_1
  by_cases c_4_2 : e_1 = 2
  · replace h := it_t h c_4_2
    refine wx_ts (tgt := 60) dX12_cos_4 c_4_2 (by decide) (by decide) rfl (by decide) ?_
    refine wx_ldc2 dX12_cos_60 kl_X12_244 ?_
    refine wx_lret dX12_cos_63 hcu hsu ?_
    obtain rfl := Option.some.inj h
    exact g
  replace h := it_f h c_4_2
  by_cases c_4_3 : e_1 = 3
  · replace h := it_t h c_4_3
    refine wx_ts (tgt := 64) dX12_cos_4 c_4_3 (by decide) (by decide) rfl (by decide) ?_
    refine wx_ldc2 dX12_cos_64 kl_X12_246 ?_
    refine wx_lret dX12_cos_67 hcu hsu ?_
    obtain rfl := Option.some.inj h
    exact g
  replace h := it_f h c_4_3
  by_cases c_4_4 : e_1 = 4
  · replace h := it_t h c_4_4
    refine wx_ts (tgt := 68) dX12_cos_4 c_4_4 (by decide) (by decide) rfl (by decide) ?_
    refine wx_ldc2 dX12_cos_68 kl_X12_248 ?_
    refine wx_lret dX12_cos_71 hcu hsu ?_
    obtain rfl := Option.some.inj h
    exact g
  replace h := it_f h c_4_4
  by_cases c_4_5 : e_1 = 5
  · replace h := it_t h c_4_5
    refine wx_ts (tgt := 72) dX12_cos_4 c_4_5 (by decide) (by decide) rfl (by decide) ?_
    refine wx_ldc2 dX12_cos_72 kl_X12_250 ?_
    refine wx_lret dX12_cos_75 hcu hsu ?_
    obtain rfl := Option.some.inj h
    exact g
  replace h := it_f h c_4_5
  by_cases c_4_6 : e_1 = 6
  · replace h := it_t h c_4_6
    refine wx_ts (tgt := 76) dX12_cos_4 c_4_6 (by decide) (by decide) rfl (by decide) ?_
    refine wx_ldc2 dX12_cos_76 kl_X12_252 ?_
    refine wx_lret dX12_cos_79 hcu hsu ?_
    obtain rfl := Option.some.inj h
    exact g
  replace h := it_f h c_4_6
  by_cases c_4_7 : e_1 = 7
  · replace h := it_t h c_4_7
    refine wx_ts (tgt := 80) dX12_cos_4 c_4_7 (by decide) (by decide) rfl (by decide) ?_
    refine wx_ldc2 dX12_cos_80 kl_X12_254 ?_
    refine wx_lret dX12_cos_83 hcu hsu ?_
    obtain rfl := Option.some.inj h
    exact g
  replace h := it_f h c_4_7
  have n_4_0 := ts_ne (j := 0) c_4_0 (by decide)
  have n_4_1 := ts_ne (j := 1) c_4_1 (by decide)
  have n_4_2 := ts_ne (j := 2) c_4_2 (by decide)
  have n_4_3 := ts_ne (j := 3) c_4_3 (by decide)
  have n_4_4 := ts_ne (j := 4) c_4_4 (by decide)
  have n_4_5 := ts_ne (j := 5) c_4_5 (by decide)
  have n_4_6 := ts_ne (j := 6) c_4_6 (by decide)
  have n_4_7 := ts_ne (j := 7) c_4_7 (by decide)
  refine wx_tsOut (tgt := 84) dX12_cos_4 (by omega) (by decide) ?_
  refine wx_ldc2 dX12_cos_84 kl_X12_256 ?_
  refine wx_lret dX12_cos_87 hcu hsu ?_
  obtain rfl := Option.some.inj h
  exact g
noncomputable def f_X12_sin_123 (z0 : Int64) : Option (Int64) :=
  some z0
theorem s_X12_sin_123 {z0 : Int64} {M : px_M} {L : px_L} {R : px_R} {e : (Int64)} (hS : SR sh R) (hd : 1 ≤ d) (hcu : cu ≤ mc) (hsu : su ≤ ms) (h : f_X12_sin_123 z0 = some e) (g : Post (some (.long e)) sh M L R n) : WX RX12 cX12_sin 3 (some .long) ("sin", []) d mc ms X (px_QF Post mc ms) 123 [] [.long z0] sh M L R n cu su := by
  unfold f_X12_sin_123 at h
  refine wx_lret dX12_sin_123 hcu hsu ?_
  obtain rfl := Option.some.inj h
  exact g
noncomputable def f_X12_sin_112 (x0 : Int32) (z0 : Int64) : Option (Int64) :=
  if 0 ≤ x0 then
    f_X12_sin_123 z0
  else
    f_X12_sin_123 (-z0)
theorem s_X12_sin_112 {x0 : Int32} {z0 : Int64} {M : px_M} {L : px_L} {R : px_R} {e : (Int64)} (hS : SR sh R) (hd : 1 ≤ d) (hcu : cu ≤ mc) (hsu : su ≤ ms) (h : f_X12_sin_112 x0 z0 = some e) (g : Post (some (.long e)) sh M L R n) : WX RX12 cX12_sin 3 (some .long) ("sin", []) d mc ms X (px_QF Post mc ms) 112 [(0, .int x0)] [.long z0] sh M L R n cu su := by
  unfold f_X12_sin_112 at h
  refine wx_lstore_n (lv' := [(1, _), (0, _)]) dX12_sin_112 (by decide) rfl ?_
  refine wx_iload_n dX12_sin_113 rfl ?_
  refine wx_if_ge (tgt := 122) dX12_sin_114 (by decide) (fun c_114 => ?_) (fun c_114 => ?_)
  · replace h := it_t h c_114
    refine wx_lload_n dX12_sin_122 rfl ?_
    exact wx_sub (s_X12_sin_123 hS hd hcu hsu h g) px_0
  · replace h := it_f h c_114
    refine wx_lload_n dX12_sin_117 rfl ?_
    refine wx_lneg dX12_sin_118 ?_
    refine wx_goto (tgt := 123) dX12_sin_119 (by decide) ?_
    exact wx_sub (s_X12_sin_123 hS hd hcu hsu h g) px_0
noncomputable def f_X12_sin (p0 : Int32) : Option (Int64) :=
  if p0 = 0 then
    f_X12_sin_112 p0 0
  else
    bd1 (f_X12_amount p0) fun e_9 =>
    if e_9 = 8 then
      f_X12_sin_112 p0 985
    else
      bd1 (f_X12_amount p0) fun e_24 =>
      if e_24 = 7 then
        f_X12_sin_112 p0 940
      else
        bd1 (f_X12_amount p0) fun e_39 =>
        if e_39 = 6 then
          f_X12_sin_112 p0 866
        else
          bd1 (f_X12_amount p0) fun e_54 =>
          if e_54 = 5 then
            f_X12_sin_112 p0 766
          else
            bd1 (f_X12_amount p0) fun e_68 =>
            if e_68 = 4 then
              f_X12_sin_112 p0 643
            else
              bd1 (f_X12_amount p0) fun e_82 =>
              if e_82 = 3 then
                f_X12_sin_112 p0 500
              else
                bd1 (f_X12_amount p0) fun e_96 =>
                if e_96 = 2 then
                  f_X12_sin_112 p0 342
                else
                  f_X12_sin_112 p0 174
theorem s_X12_sin {d : Nat} {X : Nat × (Nat → Int32)} {sh : px_Sh} {M : px_M} {L : px_L} {R : px_R} {n : Nat} {p0 : Int32} {e : Int64} (hS : SR sh R) (hd : 1 ≤ d) (h : f_X12_sin p0 = some e) : MX yX12_sin cX12_sin 3 (some .long) d 0 0 X [.int p0] sh M L R n (px_pu (some (.long e)) sh M L R n) := by
  refine MX.of (by decide +kernel) (by exact Nat.le_of_ble_eq_true rfl) ?_
  have hcu : 0 ≤ 0 := Nat.zero_le _
  have hsu : 0 ≤ 0 := Nat.zero_le _
  have g : px_pu (some (.long e)) sh M L R n (some (.long e)) sh M L R n := ⟨rfl, rfl, rfl, rfl, rfl, rfl⟩
  unfold f_X12_sin at h
  refine wx_iload_n dX12_sin_0 rfl ?_
  refine wx_if_ne (tgt := 8) dX12_sin_1 (by decide) (fun c_1 => ?_) (fun c_1 => ?_)
  · replace h := it_f h c_1
    refine wx_iload_n dX12_sin_8 rfl ?_
    obtain ⟨e_9, k_9, h⟩ := bd1_some h
    refine wx_cSi dX12_sin_9 ml_X12_237 my_X12_amount sv_X12_amount (s_X12_amount (d := d - 1) hS (by omega) k_9) rfl (by omega) (by exact Nat.le_of_ble_eq_true rfl) hcu hsu ?_
    refine wx_bipush (v := 8) dX12_sin_12 (by decide) ?_
    refine wx_icmp_ne (tgt := 23) dX12_sin_14 (by decide) (fun c_14 => ?_) (fun c_14 => ?_)
    · replace h := it_f h c_14
      refine wx_iload_n dX12_sin_23 rfl ?_
      obtain ⟨e_24, k_24, h⟩ := bd1_some h
      refine wx_cSi dX12_sin_24 ml_X12_237 my_X12_amount sv_X12_amount (s_X12_amount (d := d - 1) hS (by omega) k_24) rfl (by omega) (by exact Nat.le_of_ble_eq_true rfl) hcu hsu ?_
      refine wx_bipush (v := 7) dX12_sin_27 (by decide) ?_
      refine wx_icmp_ne (tgt := 38) dX12_sin_29 (by decide) (fun c_29 => ?_) (fun c_29 => ?_)
      · replace h := it_f h c_29
        refine wx_iload_n dX12_sin_38 rfl ?_
        obtain ⟨e_39, k_39, h⟩ := bd1_some h
        refine wx_cSi dX12_sin_39 ml_X12_237 my_X12_amount sv_X12_amount (s_X12_amount (d := d - 1) hS (by omega) k_39) rfl (by omega) (by exact Nat.le_of_ble_eq_true rfl) hcu hsu ?_
        refine wx_bipush (v := 6) dX12_sin_42 (by decide) ?_
        refine wx_icmp_ne (tgt := 53) dX12_sin_44 (by decide) (fun c_44 => ?_) (fun c_44 => ?_)
        · replace h := it_f h c_44
          refine wx_iload_n dX12_sin_53 rfl ?_
          obtain ⟨e_54, k_54, h⟩ := bd1_some h
          refine wx_cSi dX12_sin_54 ml_X12_237 my_X12_amount sv_X12_amount (s_X12_amount (d := d - 1) hS (by omega) k_54) rfl (by omega) (by exact Nat.le_of_ble_eq_true rfl) hcu hsu ?_
          refine wx_iconst (v := 5) dX12_sin_57 (by decide) ?_
          refine wx_icmp_ne (tgt := 67) dX12_sin_58 (by decide) (fun c_58 => ?_) (fun c_58 => ?_)
          · replace h := it_f h c_58
            refine wx_iload_n dX12_sin_67 rfl ?_
            obtain ⟨e_68, k_68, h⟩ := bd1_some h
            refine wx_cSi dX12_sin_68 ml_X12_237 my_X12_amount sv_X12_amount (s_X12_amount (d := d - 1) hS (by omega) k_68) rfl (by omega) (by exact Nat.le_of_ble_eq_true rfl) hcu hsu ?_
            refine wx_iconst (v := 4) dX12_sin_71 (by decide) ?_
            refine wx_icmp_ne (tgt := 81) dX12_sin_72 (by decide) (fun c_72 => ?_) (fun c_72 => ?_)
            · replace h := it_f h c_72
              refine wx_iload_n dX12_sin_81 rfl ?_
              obtain ⟨e_82, k_82, h⟩ := bd1_some h
              refine wx_cSi dX12_sin_82 ml_X12_237 my_X12_amount sv_X12_amount (s_X12_amount (d := d - 1) hS (by omega) k_82) rfl (by omega) (by exact Nat.le_of_ble_eq_true rfl) hcu hsu ?_
              refine wx_iconst (v := 3) dX12_sin_85 (by decide) ?_
              refine wx_icmp_ne (tgt := 95) dX12_sin_86 (by decide) (fun c_86 => ?_) (fun c_86 => ?_)
              · replace h := it_f h c_86
                refine wx_iload_n dX12_sin_95 rfl ?_
                obtain ⟨e_96, k_96, h⟩ := bd1_some h
                refine wx_cSi dX12_sin_96 ml_X12_237 my_X12_amount sv_X12_amount (s_X12_amount (d := d - 1) hS (by omega) k_96) rfl (by omega) (by exact Nat.le_of_ble_eq_true rfl) hcu hsu ?_
                refine wx_iconst (v := 2) dX12_sin_99 (by decide) ?_
                refine wx_icmp_ne (tgt := 109) dX12_sin_100 (by decide) (fun c_100 => ?_) (fun c_100 => ?_)
                · replace h := it_f h c_100
                  refine wx_ldc2 dX12_sin_109 kl_X12_256 ?_
                  exact wx_sub (s_X12_sin_112 hS hd hcu hsu h g) (px_s rfl px_0)
                · replace h := it_t h c_100
                  refine wx_ldc2 dX12_sin_103 kl_X12_254 ?_
                  refine wx_goto (tgt := 112) dX12_sin_106 (by decide) ?_
                  exact wx_sub (s_X12_sin_112 hS hd hcu hsu h g) (px_s rfl px_0)
              · replace h := it_t h c_86
                refine wx_ldc2 dX12_sin_89 kl_X12_252 ?_
                refine wx_goto (tgt := 112) dX12_sin_92 (by decide) ?_
                exact wx_sub (s_X12_sin_112 hS hd hcu hsu h g) (px_s rfl px_0)
            · replace h := it_t h c_72
              refine wx_ldc2 dX12_sin_75 kl_X12_250 ?_
              refine wx_goto (tgt := 112) dX12_sin_78 (by decide) ?_
              exact wx_sub (s_X12_sin_112 hS hd hcu hsu h g) (px_s rfl px_0)
          · replace h := it_t h c_58
            refine wx_ldc2 dX12_sin_61 kl_X12_248 ?_
            refine wx_goto (tgt := 112) dX12_sin_64 (by decide) ?_
            exact wx_sub (s_X12_sin_112 hS hd hcu hsu h g) (px_s rfl px_0)
        · replace h := it_t h c_44
          refine wx_ldc2 dX12_sin_47 kl_X12_246 ?_
          refine wx_goto (tgt := 112) dX12_sin_50 (by decide) ?_
          exact wx_sub (s_X12_sin_112 hS hd hcu hsu h g) (px_s rfl px_0)
      · replace h := it_t h c_29
        refine wx_ldc2 dX12_sin_32 kl_X12_244 ?_
        refine wx_goto (tgt := 112) dX12_sin_35 (by decide) ?_
        exact wx_sub (s_X12_sin_112 hS hd hcu hsu h g) (px_s rfl px_0)
    · replace h := it_t h c_14
      refine wx_ldc2 dX12_sin_17 kl_X12_242 ?_
      refine wx_goto (tgt := 112) dX12_sin_20 (by decide) ?_
      exact wx_sub (s_X12_sin_112 hS hd hcu hsu h g) (px_s rfl px_0)
  · replace h := it_t h c_1
    refine wx_lconst (v := 0) dX12_sin_4 (by decide) ?_
    refine wx_goto (tgt := 112) dX12_sin_5 (by decide) ?_
    exact wx_sub (s_X12_sin_112 hS hd hcu hsu h g) (px_s rfl px_0)
noncomputable def f_X12_pushY_54 (M : px_M) (z0 : Int32) : Option (Int32) :=
  some z0
theorem s_X12_pushY_54 {z0 : Int32} {M : px_M} {L : px_L} {R : px_R} {e : (Int32)} (hS : SR sh R) (hd : 2 ≤ d) (hcu : cu ≤ mc) (hsu : su ≤ ms) (h : f_X12_pushY_54 M z0 = some e) (g : Post (some (.int e)) sh M L R n) : WX RX12 cX12_pushY 4 (some .int) ("pushY", []) d mc ms X (px_QF Post mc ms) 54 [] [.int z0] sh M L R n cu su := by
  unfold f_X12_pushY_54 at h
  refine wx_iret dX12_pushY_54 hcu hsu ?_
  obtain rfl := Option.some.inj h
  exact g
noncomputable def f_X12_pushY (M : px_M) (p1 : Int32) (p2 : Int32) : Option (Int32) :=
  bd1 (f_X12_slantOf M p1 p2) fun e_3 =>
  ok (ix p1 16) <|
  if (M 86 p1.toNatClampNeg) = 0 then
    ok (ix p1 16) <|
    bd1 (f_X12_cos e_3) fun e_28 =>
    ok (ix p1 16) <|
    bd1 (f_X12_sin e_3) fun e_44 =>
    f_X12_pushY_54 M ((((((((M 81 p1.toNatClampNeg) : Int32).toInt64) * e_28) * ((2 * (((M 82 p1.toNatClampNeg) : Int32).toInt64)) * e_44)) / 100000000) : Int64).toInt32)
  else
    f_X12_pushY_54 M 0
theorem s_X12_pushY {d : Nat} {X : Nat × (Nat → Int32)} {sh : px_Sh} {M : px_M} {L : px_L} {R : px_R} {n : Nat} {p1 : Int32} {p2 : Int32} {e : Int32} (hS : SR sh R) (hd : 2 ≤ d) (h : f_X12_pushY M p1 p2 = some e) : MX yX12_pushY cX12_pushY 4 (some .int) d 0 0 X [.ref 73, .int p1, .int p2] sh M L R n (px_pu (some (.int e)) sh M L R n) := by
  refine MX.of (by decide +kernel) (by exact Nat.le_of_ble_eq_true rfl) ?_
  have hcu : 0 ≤ 0 := Nat.zero_le _
  have hsu : 0 ≤ 0 := Nat.zero_le _
  have g : px_pu (some (.int e)) sh M L R n (some (.int e)) sh M L R n := ⟨rfl, rfl, rfl, rfl, rfl, rfl⟩
  unfold f_X12_pushY at h
  refine wx_aload_n dX12_pushY_0 rfl ?_
  refine wx_iload_n dX12_pushY_1 rfl ?_
  refine wx_iload_n dX12_pushY_2 rfl ?_
  obtain ⟨e_3, k_3, h⟩ := bd1_some h
  refine wx_cVi dX12_pushY_3 ml_X12_258 my_X12_slantOf iv_X12_slantOf (sc_73 hS) (by decide) (s_X12_slantOf (d := d - 1) hS (by omega) k_3) rfl (by omega) (by exact Nat.le_of_ble_eq_true rfl) hcu hsu ?_
  refine wx_istore_n (lv' := [(3, _), (0, _), (1, _), (2, _)]) dX12_pushY_6 (by decide) rfl ?_
  refine wx_aload_n dX12_pushY_7 rfl ?_
  refine wx_getR dX12_pushY_8 fl_X12_47 (sc_73 hS) rfl (rr_73_20 hS) ?_
  refine wx_iload_n dX12_pushY_11 rfl ?_
  obtain ⟨w_12, h⟩ := ok_some h
  refine wx_bald dX12_pushY_12 (sc_86 hS) (ix_in w_12) ?_
  refine wx_if_eq (tgt := 20) dX12_pushY_13 (by decide) (fun c_13 => ?_) (fun c_13 => ?_)
  · replace h := it_t h c_13
    refine wx_aload_n dX12_pushY_20 rfl ?_
    refine wx_getR dX12_pushY_21 fl_X12_32 (sc_73 hS) rfl (rr_73_15 hS) ?_
    refine wx_iload_n dX12_pushY_24 rfl ?_
    obtain ⟨w_25, h⟩ := ok_some h
    refine wx_iald dX12_pushY_25 (sc_81 hS) (ix_in w_25) ?_
    refine wx_i2l dX12_pushY_26 ?_
    refine wx_iload_n dX12_pushY_27 rfl ?_
    obtain ⟨e_28, k_28, h⟩ := bd1_some h
    refine wx_cSl dX12_pushY_28 ml_X12_262 my_X12_cos sv_X12_cos (s_X12_cos (d := d - 1) hS (by omega) k_28) rfl (by omega) (by exact Nat.le_of_ble_eq_true rfl) hcu hsu ?_
    refine wx_lmul dX12_pushY_31 ?_
    refine wx_ldc2 dX12_pushY_32 kl_X12_266 ?_
    refine wx_aload_n dX12_pushY_35 rfl ?_
    refine wx_getR dX12_pushY_36 fl_X12_35 (sc_73 hS) rfl (rr_73_16 hS) ?_
    refine wx_iload_n dX12_pushY_39 rfl ?_
    obtain ⟨w_40, h⟩ := ok_some h
    refine wx_iald dX12_pushY_40 (sc_82 hS) (ix_in w_40) ?_
    refine wx_i2l dX12_pushY_41 ?_
    refine wx_lmul dX12_pushY_42 ?_
    refine wx_iload_n dX12_pushY_43 rfl ?_
    obtain ⟨e_44, k_44, h⟩ := bd1_some h
    refine wx_cSl dX12_pushY_44 ml_X12_270 my_X12_sin sv_X12_sin (s_X12_sin (d := d - 1) hS (by omega) k_44) rfl (by omega) (by exact Nat.le_of_ble_eq_true rfl) hcu hsu ?_
    refine wx_lmul dX12_pushY_47 ?_
    refine wx_lmul dX12_pushY_48 ?_
    refine wx_ldc2 dX12_pushY_49 kl_X12_268 ?_
    refine wx_ldiv dX12_pushY_52 (by decide) ?_
    refine wx_l2i dX12_pushY_53 ?_
    exact wx_sub (s_X12_pushY_54 hS hd hcu hsu h g) px_0
  · replace h := it_f h c_13
    refine wx_iconst (v := 0) dX12_pushY_16 (by decide) ?_
    refine wx_goto (tgt := 54) dX12_pushY_17 (by decide) ?_
    exact wx_sub (s_X12_pushY_54 hS hd hcu hsu h g) px_0
noncomputable def f_X12_sumY_4 (M : px_M) (x1 : Int32) (x2 : Int32) (x3 : Int32) : Option ((Int32 × Int32) ⊕ (Int32)) :=
  if (M 73 9) ≤ x3 then
    some (.inr x2)
  else
    bd1 (f_X12_pushY M x3 x1) fun e_16 =>
    nm (x2 + e_16) fun v_20 =>
    some (.inl (v_20, (x3 + 1)))
theorem s_X12_sumY_4b {x1 : Int32} {x2 : Int32} {x3 : Int32} {M : px_M} {L : px_L} {R : px_R} {e : ((Int32 × Int32) ⊕ (Int32))} (hS : SR sh R) (hd : 3 ≤ d) (hcu : cu ≤ mc) (hsu : su ≤ ms) (h : f_X12_sumY_4 M x1 x2 x3 = some e) (g : (sE (fun a => WX RX12 cX12_sumY 4 (some .int) ("sumY", []) d mc ms X (px_QF Post mc ms) 4 [(0, .ref 73), (1, .int x1), (2, .int a.1), (3, .int a.2)] [] sh M L R n cu su) (fun t => WX RX12 cX12_sumY 4 (some .int) ("sumY", []) d mc ms X (px_QF Post mc ms) 27 [(2, .int t)] [] sh M L R n cu su)) e) : WX RX12 cX12_sumY 4 (some .int) ("sumY", []) d mc ms X (px_QF Post mc ms) 4 [(0, .ref 73), (1, .int x1), (2, .int x2), (3, .int x3)] [] sh M L R n cu su := by
  unfold f_X12_sumY_4 at h
  refine wx_iload_n dX12_sumY_4 rfl ?_
  refine wx_aload_n dX12_sumY_5 rfl ?_
  refine wx_getI dX12_sumY_6 fl_X12_222 (sc_73 hS) rfl ?_
  refine wx_icmp_ge (tgt := 27) dX12_sumY_9 (by decide) (fun c_9 => ?_) (fun c_9 => ?_)
  · replace h := it_t h c_9
    obtain rfl := Option.some.inj h
    replace g := sE_r g
    exact wx_sub g (px_s rfl px_0)
  · replace h := it_f h c_9
    refine wx_iload_n dX12_sumY_12 rfl ?_
    refine wx_aload_n dX12_sumY_13 rfl ?_
    refine wx_iload_n dX12_sumY_14 rfl ?_
    refine wx_iload_n dX12_sumY_15 rfl ?_
    obtain ⟨e_16, k_16, h⟩ := bd1_some h
    refine wx_cVi dX12_sumY_16 ml_X12_273 my_X12_pushY iv_X12_pushY (sc_73 hS) (by decide) (s_X12_pushY (d := d - 1) hS (by omega) k_16) rfl (by omega) (by exact Nat.le_of_ble_eq_true rfl) hcu hsu ?_
    refine wx_iadd dX12_sumY_19 ?_
    refine wx_nami (fun v_20 q_20 => ?_)
    replace h := nm_at h q_20
    refine wx_istore_n (lv' := [(2, _), (0, _), (1, _), (3, _)]) dX12_sumY_20 (by decide) rfl ?_
    refine wx_iinc (lv' := [(3, _), (2, _), (0, _), (1, _)]) dX12_sumY_21 rfl (i_1 _) (by decide) rfl ?_
    refine wx_goto (tgt := 4) dX12_sumY_24 (by decide) ?_
    obtain rfl := Option.some.inj h
    replace g := sE_l g
    exact wx_sub g (px_s rfl (px_s rfl (px_s rfl (px_s rfl px_0))))
theorem s_X12_sumY_4 {x1 : Int32} {x2 : Int32} {x3 : Int32} {M : px_M} {L : px_L} {R : px_R} {e : (Int32)} (hS : SR sh R) (hd : 3 ≤ d) (hcu : cu ≤ mc) (hsu : su ≤ ms) (h : lpf (fun a : Int32 × Int32 => f_X12_sumY_4 M x1 a.1 a.2) (x2, x3) = some e) (g : WX RX12 cX12_sumY 4 (some .int) ("sumY", []) d mc ms X (px_QF Post mc ms) 27 [(2, .int e)] [] sh M L R n cu su) : WX RX12 cX12_sumY 4 (some .int) ("sumY", []) d mc ms X (px_QF Post mc ms) 4 [(0, .ref 73), (1, .int x1), (2, .int x2), (3, .int x3)] [] sh M L R n cu su := by
  have key := lpf_wp (P := (fun a => WX RX12 cX12_sumY 4 (some .int) ("sumY", []) d mc ms X (px_QF Post mc ms) 4 [(0, .ref 73), (1, .int x1), (2, .int a.1), (3, .int a.2)] [] sh M L R n cu su)) (G := (fun t => WX RX12 cX12_sumY 4 (some .int) ("sumY", []) d mc ms X (px_QF Post mc ms) 27 [(2, .int t)] [] sh M L R n cu su)) (fun a r h g => s_X12_sumY_4b (x1 := x1) (x2 := a.1) (x3 := a.2) (M := M) (L := L) (R := R) hS hd hcu hsu h g) (a := (x2, x3)) h g
  exact key
noncomputable def f_X12_sumY (M : px_M) (p1 : Int32) : Option (Int32) :=
  bd1 (lpf (fun a : Int32 × Int32 => f_X12_sumY_4 M p1 a.1 a.2) (0, 0)) fun e_4 =>
  some e_4
theorem s_X12_sumY {d : Nat} {X : Nat × (Nat → Int32)} {sh : px_Sh} {M : px_M} {L : px_L} {R : px_R} {n : Nat} {p1 : Int32} {e : Int32} (hS : SR sh R) (hd : 3 ≤ d) (h : f_X12_sumY M p1 = some e) : MX yX12_sumY cX12_sumY 4 (some .int) d 0 0 X [.ref 73, .int p1] sh M L R n (px_pu (some (.int e)) sh M L R n) := by
  refine MX.of (by decide +kernel) (by exact Nat.le_of_ble_eq_true rfl) ?_
  have hcu : 0 ≤ 0 := Nat.zero_le _
  have hsu : 0 ≤ 0 := Nat.zero_le _
  have g : px_pu (some (.int e)) sh M L R n (some (.int e)) sh M L R n := ⟨rfl, rfl, rfl, rfl, rfl, rfl⟩
  unfold f_X12_sumY at h
  refine wx_iconst (v := 0) dX12_sumY_0 (by decide) ?_
  refine wx_istore_n (lv' := [(2, _), (0, _), (1, _)]) dX12_sumY_1 (by decide) rfl ?_
  refine wx_iconst (v := 0) dX12_sumY_2 (by decide) ?_
  refine wx_istore_n (lv' := [(3, _), (2, _), (0, _), (1, _)]) dX12_sumY_3 (by decide) rfl ?_
  obtain ⟨e_4, k_4, h⟩ := bd1_some h
  refine wx_sub (s_X12_sumY_4 hS hd hcu hsu k_4 ?_) (px_s rfl (px_s rfl (px_s rfl (px_s rfl px_0))))
  refine wx_iload_n dX12_sumY_27 rfl ?_
  refine wx_iret dX12_sumY_28 hcu hsu ?_
  obtain rfl := Option.some.inj h
  exact g
noncomputable def f_X12_pushX_57 (M : px_M) (z0 : Int32) : Option (Int32) :=
  some z0
theorem s_X12_pushX_57 {z0 : Int32} {M : px_M} {L : px_L} {R : px_R} {e : (Int32)} (hS : SR sh R) (hd : 2 ≤ d) (hcu : cu ≤ mc) (hsu : su ≤ ms) (h : f_X12_pushX_57 M z0 = some e) (g : Post (some (.int e)) sh M L R n) : WX RX12 cX12_pushX 7 (some .int) ("pushX", []) d mc ms X (px_QF Post mc ms) 57 [] [.int z0] sh M L R n cu su := by
  unfold f_X12_pushX_57 at h
  refine wx_iret dX12_pushX_57 hcu hsu ?_
  obtain rfl := Option.some.inj h
  exact g
noncomputable def f_X12_pushX (M : px_M) (p1 : Int32) (p2 : Int32) (p3 : Int32) (p4 : Int32) : Option (Int32) :=
  bd1 (f_X12_slantOf M p1 p2) fun e_3 =>
  bd1 (f_X12_cos e_3) fun e_6 =>
  ok (ix p1 16) <|
  if (M 86 p1.toNatClampNeg) = 0 then
    ok (ix p1 16) <|
    f_X12_pushX_57 M ((((((((M 81 p1.toNatClampNeg) : Int32).toInt64) * e_6) * ((1000 * ((p4 : Int32).toInt64)) + ((2 * ((p3 : Int32).toInt64)) * e_6))) / 100000000) : Int64).toInt32)
  else
    f_X12_pushX_57 M 0
theorem s_X12_pushX {d : Nat} {X : Nat × (Nat → Int32)} {sh : px_Sh} {M : px_M} {L : px_L} {R : px_R} {n : Nat} {p1 : Int32} {p2 : Int32} {p3 : Int32} {p4 : Int32} {e : Int32} (hS : SR sh R) (hd : 2 ≤ d) (h : f_X12_pushX M p1 p2 p3 p4 = some e) : MX yX12_pushX cX12_pushX 7 (some .int) d 0 0 X [.ref 73, .int p1, .int p2, .int p3, .int p4] sh M L R n (px_pu (some (.int e)) sh M L R n) := by
  refine MX.of (by decide +kernel) (by exact Nat.le_of_ble_eq_true rfl) ?_
  have hcu : 0 ≤ 0 := Nat.zero_le _
  have hsu : 0 ≤ 0 := Nat.zero_le _
  have g : px_pu (some (.int e)) sh M L R n (some (.int e)) sh M L R n := ⟨rfl, rfl, rfl, rfl, rfl, rfl⟩
  unfold f_X12_pushX at h
  refine wx_aload_n dX12_pushX_0 rfl ?_
  refine wx_iload_n dX12_pushX_1 rfl ?_
  refine wx_iload_n dX12_pushX_2 rfl ?_
  obtain ⟨e_3, k_3, h⟩ := bd1_some h
  refine wx_cVi dX12_pushX_3 ml_X12_258 my_X12_slantOf iv_X12_slantOf (sc_73 hS) (by decide) (s_X12_slantOf (d := d - 1) hS (by omega) k_3) rfl (by omega) (by exact Nat.le_of_ble_eq_true rfl) hcu hsu ?_
  obtain ⟨e_6, k_6, h⟩ := bd1_some h
  refine wx_cSl dX12_pushX_6 ml_X12_262 my_X12_cos sv_X12_cos (s_X12_cos (d := d - 1) hS (by omega) k_6) rfl (by omega) (by exact Nat.le_of_ble_eq_true rfl) hcu hsu ?_
  refine wx_lstore (lv' := [(5, _), (0, _), (1, _), (2, _), (3, _), (4, _)]) dX12_pushX_9 (by decide) rfl ?_
  refine wx_aload_n dX12_pushX_11 rfl ?_
  refine wx_getR dX12_pushX_12 fl_X12_47 (sc_73 hS) rfl (rr_73_20 hS) ?_
  refine wx_iload_n dX12_pushX_15 rfl ?_
  obtain ⟨w_16, h⟩ := ok_some h
  refine wx_bald dX12_pushX_16 (sc_86 hS) (ix_in w_16) ?_
  refine wx_if_eq (tgt := 24) dX12_pushX_17 (by decide) (fun c_17 => ?_) (fun c_17 => ?_)
  · replace h := it_t h c_17
    refine wx_aload_n dX12_pushX_24 rfl ?_
    refine wx_getR dX12_pushX_25 fl_X12_32 (sc_73 hS) rfl (rr_73_15 hS) ?_
    refine wx_iload_n dX12_pushX_28 rfl ?_
    obtain ⟨w_29, h⟩ := ok_some h
    refine wx_iald dX12_pushX_29 (sc_81 hS) (ix_in w_29) ?_
    refine wx_i2l dX12_pushX_30 ?_
    refine wx_lload dX12_pushX_31 rfl ?_
    refine wx_lmul dX12_pushX_33 ?_
    refine wx_ldc2 dX12_pushX_34 kl_X12_240 ?_
    refine wx_iload dX12_pushX_37 rfl ?_
    refine wx_i2l dX12_pushX_39 ?_
    refine wx_lmul dX12_pushX_40 ?_
    refine wx_ldc2 dX12_pushX_41 kl_X12_266 ?_
    refine wx_iload_n dX12_pushX_44 rfl ?_
    refine wx_i2l dX12_pushX_45 ?_
    refine wx_lmul dX12_pushX_46 ?_
    refine wx_lload dX12_pushX_47 rfl ?_
    refine wx_lmul dX12_pushX_49 ?_
    refine wx_ladd dX12_pushX_50 ?_
    refine wx_lmul dX12_pushX_51 ?_
    refine wx_ldc2 dX12_pushX_52 kl_X12_268 ?_
    refine wx_ldiv dX12_pushX_55 (by decide) ?_
    refine wx_l2i dX12_pushX_56 ?_
    exact wx_sub (s_X12_pushX_57 hS hd hcu hsu h g) px_0
  · replace h := it_f h c_17
    refine wx_iconst (v := 0) dX12_pushX_20 (by decide) ?_
    refine wx_goto (tgt := 57) dX12_pushX_21 (by decide) ?_
    exact wx_sub (s_X12_pushX_57 hS hd hcu hsu h g) px_0
noncomputable def f_X12_push_56 (M : px_M) (x1 : Int32) (x3 : Int32) (x4 : Int32) : Option ((Int32 × Int32) ⊕ (Int32)) :=
  if (M 73 9) ≤ x4 then
    some (.inr x3)
  else
    ok (ix x4 16) <|
    ok (ix x4 16) <|
    bd1 (f_X12_pushX M x4 x1 (M 82 x4.toNatClampNeg) (M 83 x4.toNatClampNeg)) fun e_84 =>
    nm (x3 + e_84) fun v_88 =>
    some (.inl (v_88, (x4 + 1)))
theorem s_X12_push_56b {x1 : Int32} {x3 : Int32} {x4 : Int32} {M : px_M} {L : px_L} {R : px_R} {e : ((Int32 × Int32) ⊕ (Int32))} (hS : SR sh R) (hd : 4 ≤ d) (hcu : cu ≤ mc) (hsu : su ≤ ms) (h : f_X12_push_56 M x1 x3 x4 = some e) (g : (sE (fun a => WX RX12 cX12_push 5 (some .int) ("push", []) d mc ms X (px_QF Post mc ms) 56 [(0, .ref 73), (1, .int x1), (3, .int a.1), (4, .int a.2)] [] sh M L R n cu su) (fun t => WX RX12 cX12_push 5 (some .int) ("push", []) d mc ms X (px_QF Post mc ms) 95 [(3, .int t)] [] sh M L R n cu su)) e) : WX RX12 cX12_push 5 (some .int) ("push", []) d mc ms X (px_QF Post mc ms) 56 [(0, .ref 73), (1, .int x1), (3, .int x3), (4, .int x4)] [] sh M L R n cu su := by
  unfold f_X12_push_56 at h
  refine wx_iload dX12_push_56 rfl ?_
  refine wx_aload_n dX12_push_58 rfl ?_
  refine wx_getI dX12_push_59 fl_X12_222 (sc_73 hS) rfl ?_
  refine wx_icmp_ge (tgt := 95) dX12_push_62 (by decide) (fun c_62 => ?_) (fun c_62 => ?_)
  · replace h := it_t h c_62
    obtain rfl := Option.some.inj h
    replace g := sE_r g
    exact wx_sub g (px_s rfl px_0)
  · replace h := it_f h c_62
    refine wx_iload_n dX12_push_65 rfl ?_
    refine wx_aload_n dX12_push_66 rfl ?_
    refine wx_iload dX12_push_67 rfl ?_
    refine wx_iload_n dX12_push_69 rfl ?_
    refine wx_aload_n dX12_push_70 rfl ?_
    refine wx_getR dX12_push_71 fl_X12_35 (sc_73 hS) rfl (rr_73_16 hS) ?_
    refine wx_iload dX12_push_74 rfl ?_
    obtain ⟨w_76, h⟩ := ok_some h
    refine wx_iald dX12_push_76 (sc_82 hS) (ix_in w_76) ?_
    refine wx_aload_n dX12_push_77 rfl ?_
    refine wx_getR dX12_push_78 fl_X12_38 (sc_73 hS) rfl (rr_73_17 hS) ?_
    refine wx_iload dX12_push_81 rfl ?_
    obtain ⟨w_83, h⟩ := ok_some h
    refine wx_iald dX12_push_83 (sc_83 hS) (ix_in w_83) ?_
    obtain ⟨e_84, k_84, h⟩ := bd1_some h
    refine wx_cVi dX12_push_84 ml_X12_279 my_X12_pushX iv_X12_pushX (sc_73 hS) (by decide) (s_X12_pushX (d := d - 1) hS (by omega) k_84) rfl (by omega) (by exact Nat.le_of_ble_eq_true rfl) hcu hsu ?_
    refine wx_iadd dX12_push_87 ?_
    refine wx_nami (fun v_88 q_88 => ?_)
    replace h := nm_at h q_88
    refine wx_istore_n (lv' := [(3, _), (0, _), (1, _), (4, _)]) dX12_push_88 (by decide) rfl ?_
    refine wx_iinc (lv' := [(4, _), (3, _), (0, _), (1, _)]) dX12_push_89 rfl (i_1 _) (by decide) rfl ?_
    refine wx_goto (tgt := 56) dX12_push_92 (by decide) ?_
    obtain rfl := Option.some.inj h
    replace g := sE_l g
    exact wx_sub g (px_s rfl (px_s rfl (px_s rfl (px_s rfl px_0))))
theorem s_X12_push_56 {x1 : Int32} {x3 : Int32} {x4 : Int32} {M : px_M} {L : px_L} {R : px_R} {e : (Int32)} (hS : SR sh R) (hd : 4 ≤ d) (hcu : cu ≤ mc) (hsu : su ≤ ms) (h : lpf (fun a : Int32 × Int32 => f_X12_push_56 M x1 a.1 a.2) (x3, x4) = some e) (g : WX RX12 cX12_push 5 (some .int) ("push", []) d mc ms X (px_QF Post mc ms) 95 [(3, .int e)] [] sh M L R n cu su) : WX RX12 cX12_push 5 (some .int) ("push", []) d mc ms X (px_QF Post mc ms) 56 [(0, .ref 73), (1, .int x1), (3, .int x3), (4, .int x4)] [] sh M L R n cu su := by
  have key := lpf_wp (P := (fun a => WX RX12 cX12_push 5 (some .int) ("push", []) d mc ms X (px_QF Post mc ms) 56 [(0, .ref 73), (1, .int x1), (3, .int a.1), (4, .int a.2)] [] sh M L R n cu su)) (G := (fun t => WX RX12 cX12_push 5 (some .int) ("push", []) d mc ms X (px_QF Post mc ms) 95 [(3, .int t)] [] sh M L R n cu su)) (fun a r h g => s_X12_push_56b (x1 := x1) (x3 := a.1) (x4 := a.2) (M := M) (L := L) (R := R) hS hd hcu hsu h g) (a := (x3, x4)) h g
  exact key
noncomputable def f_X12_push_31 (M : px_M) (x1 : Int32) (x2 : Int32) (z0 : Int32) : Option (Int32 × px_M) :=
  bd1 (f_X12_bad M z0 1) fun e_32 =>
  if e_32.1 = 0 then
    if x2 = 1 then
      bd1 (f_X12_sumY e_32.2 x1) fun e_47 =>
      some (e_47, e_32.2)
    else
      bd1 (lpf (fun a : Int32 × Int32 => f_X12_push_56 e_32.2 x1 a.1 a.2) (0, 0)) fun e_56 =>
      some (e_56, e_32.2)
  else
    some (0, e_32.2)
theorem s_X12_push_31 {x1 : Int32} {x2 : Int32} {z0 : Int32} {M : px_M} {L : px_L} {R : px_R} {e : (Int32 × px_M)} (hS : SR sh R) (hd : 4 ≤ d) (hcu : cu ≤ mc) (hsu : su ≤ ms) (h : f_X12_push_31 M x1 x2 z0 = some e) (g : Post (some (.int (e.1))) sh (e.2) L R n) : WX RX12 cX12_push 5 (some .int) ("push", []) d mc ms X (px_QF Post mc ms) 31 [(0, .ref 73), (1, .int x1), (2, .int x2)] [.int z0, .ref 73] sh M L R n cu su := by
  unfold f_X12_push_31 at h
  refine wx_iconst (v := 1) dX12_push_31 (by decide) ?_
  obtain ⟨e_32, k_32, h⟩ := bd1_some h
  refine wx_cVi dX12_push_32 ml_X12_207 my_X12_bad iv_X12_bad (sc_73 hS) (by decide) (s_X12_bad (d := d - 1) hS (by omega) k_32) rfl (by omega) (by exact Nat.le_of_ble_eq_true rfl) hcu hsu ?_
  refine wx_if_eq (tgt := 40) dX12_push_35 (by decide) (fun c_35 => ?_) (fun c_35 => ?_)
  · replace h := it_t h c_35
    refine wx_iload_n dX12_push_40 rfl ?_
    refine wx_iconst (v := 1) dX12_push_41 (by decide) ?_
    refine wx_icmp_ne (tgt := 51) dX12_push_42 (by decide) (fun c_42 => ?_) (fun c_42 => ?_)
    · replace h := it_f h c_42
      refine wx_iconst (v := 0) dX12_push_51 (by decide) ?_
      refine wx_istore_n (lv' := [(3, _), (0, _), (1, _), (2, _)]) dX12_push_52 (by decide) rfl ?_
      refine wx_iconst (v := 0) dX12_push_53 (by decide) ?_
      refine wx_istore (lv' := [(4, _), (3, _), (0, _), (1, _), (2, _)]) dX12_push_54 (by decide) rfl ?_
      obtain ⟨e_56, k_56, h⟩ := bd1_some h
      refine wx_sub (s_X12_push_56 hS hd hcu hsu k_56 ?_) (px_s rfl (px_s rfl (px_s rfl (px_s rfl px_0))))
      refine wx_iload_n dX12_push_95 rfl ?_
      refine wx_iret dX12_push_96 hcu hsu ?_
      obtain rfl := Option.some.inj h
      exact g
    · replace h := it_t h c_42
      refine wx_aload_n dX12_push_45 rfl ?_
      refine wx_iload_n dX12_push_46 rfl ?_
      obtain ⟨e_47, k_47, h⟩ := bd1_some h
      refine wx_cVi dX12_push_47 ml_X12_276 my_X12_sumY iv_X12_sumY (sc_73 hS) (by decide) (s_X12_sumY (d := d - 1) hS (by omega) k_47) rfl (by omega) (by exact Nat.le_of_ble_eq_true rfl) hcu hsu ?_
      refine wx_iret dX12_push_50 hcu hsu ?_
      obtain rfl := Option.some.inj h
      exact g
  · replace h := it_f h c_35
    refine wx_iconst (v := 0) dX12_push_38 (by decide) ?_
    refine wx_iret dX12_push_39 hcu hsu ?_
    obtain rfl := Option.some.inj h
    exact g
noncomputable def f_X12_push_26 (M : px_M) (x1 : Int32) (x2 : Int32) : Option (Int32 × px_M) :=
  f_X12_push_31 M x1 x2 1
theorem s_X12_push_26 {x1 : Int32} {x2 : Int32} {M : px_M} {L : px_L} {R : px_R} {e : (Int32 × px_M)} (hS : SR sh R) (hd : 4 ≤ d) (hcu : cu ≤ mc) (hsu : su ≤ ms) (h : f_X12_push_26 M x1 x2 = some e) (g : Post (some (.int (e.1))) sh (e.2) L R n) : WX RX12 cX12_push 5 (some .int) ("push", []) d mc ms X (px_QF Post mc ms) 26 [(0, .ref 73), (1, .int x1), (2, .int x2)] [.ref 73] sh M L R n cu su := by
  unfold f_X12_push_26 at h
  refine wx_iconst (v := 1) dX12_push_26 (by decide) ?_
  refine wx_goto (tgt := 31) dX12_push_27 (by decide) ?_
  exact wx_sub (s_X12_push_31 hS hd hcu hsu h g) (px_s rfl (px_s rfl (px_s rfl px_0)))
noncomputable def f_X12_push (M : px_M) (p1 : Int32) (p2 : Int32) : Option (Int32 × px_M) :=
  nm (px_u M 73 0 0) fun M_2 =>
  bd1 (f_X12_in p1 (-8) 8) fun e_11 =>
  if e_11 = 0 then
    f_X12_push_26 M_2 p1 p2
  else
    bd1 (f_X12_in p2 0 1) fun e_20 =>
    if e_20 = 0 then
      f_X12_push_26 M_2 p1 p2
    else
      f_X12_push_31 M_2 p1 p2 0
theorem s_X12_push {d : Nat} {X : Nat × (Nat → Int32)} {sh : px_Sh} {M : px_M} {L : px_L} {R : px_R} {n : Nat} {p1 : Int32} {p2 : Int32} {e : Int32 × px_M} (hS : SR sh R) (hd : 4 ≤ d) (h : f_X12_push M p1 p2 = some e) : MX yX12_push cX12_push 5 (some .int) d 0 0 X [.ref 73, .int p1, .int p2] sh M L R n (px_pu (some (.int e.1)) sh e.2 L R n) := by
  refine MX.of (by decide +kernel) (by exact Nat.le_of_ble_eq_true rfl) ?_
  have hcu : 0 ≤ 0 := Nat.zero_le _
  have hsu : 0 ≤ 0 := Nat.zero_le _
  have g : px_pu (some (.int e.1)) sh e.2 L R n (some (.int e.1)) sh e.2 L R n := ⟨rfl, rfl, rfl, rfl, rfl, rfl⟩
  unfold f_X12_push at h
  refine wx_aload_n dX12_push_0 rfl ?_
  refine wx_iconst (v := 0) dX12_push_1 (by decide) ?_
  refine wx_putI dX12_push_2 fl_X12_179 (sc_73 hS) (Or.inl rfl) rfl ⟨rfl, rfl⟩ ?_
  refine wx_namM (fun M_2 q_2 => ?_)
  replace h := nm_at h q_2
  refine wx_aload_n dX12_push_5 rfl ?_
  refine wx_iload_n dX12_push_6 rfl ?_
  refine wx_bipush (v := (-8)) dX12_push_7 (by decide) ?_
  refine wx_bipush (v := 8) dX12_push_9 (by decide) ?_
  obtain ⟨e_11, k_11, h⟩ := bd1_some h
  refine wx_cSi dX12_push_11 ml_X12_203 my_X12_in sv_X12_in (s_X12_in (d := d - 1) hS (by omega) k_11) rfl (by omega) (by exact Nat.le_of_ble_eq_true rfl) hcu hsu ?_
  refine wx_if_eq (tgt := 26) dX12_push_14 (by decide) (fun c_14 => ?_) (fun c_14 => ?_)
  · replace h := it_t h c_14
    exact wx_sub (s_X12_push_26 hS hd hcu hsu h g) (px_s rfl (px_s rfl (px_s rfl px_0)))
  · replace h := it_f h c_14
    refine wx_iload_n dX12_push_17 rfl ?_
    refine wx_iconst (v := 0) dX12_push_18 (by decide) ?_
    refine wx_iconst (v := 1) dX12_push_19 (by decide) ?_
    obtain ⟨e_20, k_20, h⟩ := bd1_some h
    refine wx_cSi dX12_push_20 ml_X12_203 my_X12_in sv_X12_in (s_X12_in (d := d - 1) hS (by omega) k_20) rfl (by omega) (by exact Nat.le_of_ble_eq_true rfl) hcu hsu ?_
    refine wx_if_ne (tgt := 30) dX12_push_23 (by decide) (fun c_23 => ?_) (fun c_23 => ?_)
    · replace h := it_f h c_23
      refine wx_iconst (v := 0) dX12_push_30 (by decide) ?_
      exact wx_sub (s_X12_push_31 hS hd hcu hsu h g) (px_s rfl (px_s rfl (px_s rfl px_0)))
    · replace h := it_t h c_23
      exact wx_sub (s_X12_push_26 hS hd hcu hsu h g) (px_s rfl (px_s rfl (px_s rfl px_0)))
noncomputable def f_X12_press_59 (M : px_M) (z0 : Int32) : Option (Int32) :=
  some z0
theorem s_X12_press_59 {z0 : Int32} {M : px_M} {L : px_L} {R : px_R} {e : (Int32)} (hS : SR sh R) (hd : 2 ≤ d) (hcu : cu ≤ mc) (hsu : su ≤ ms) (h : f_X12_press_59 M z0 = some e) (g : Post (some (.int e)) sh M L R n) : WX RX12 cX12_press 5 (some .int) ("press", []) d mc ms X (px_QF Post mc ms) 59 [] [.int z0] sh M L R n cu su := by
  unfold f_X12_press_59 at h
  refine wx_iret dX12_press_59 hcu hsu ?_
  obtain rfl := Option.some.inj h
  exact g
noncomputable def f_X12_press (M : px_M) (p1 : Int32) (p2 : Int32) : Option (Int32) :=
  bd1 (f_X12_slantOf M p1 p2) fun e_3 =>
  bd1 (f_X12_cos e_3) fun e_6 =>
  ok (ix p1 16) <|
  if (M 86 p1.toNatClampNeg) = 0 then
    ok (ix p1 16) <|
    ok (ix p1 16) <|
    ok (ix p1 16) <|
    f_X12_press_59 M (((((((((M 81 p1.toNatClampNeg) : Int32).toInt64) * e_6) * e_6) * ((2 * (((M 82 p1.toNatClampNeg) : Int32).toInt64)) + (((M 83 p1.toNatClampNeg) : Int32).toInt64))) / 100000000) : Int64).toInt32)
  else
    f_X12_press_59 M 0
theorem s_X12_press {d : Nat} {X : Nat × (Nat → Int32)} {sh : px_Sh} {M : px_M} {L : px_L} {R : px_R} {n : Nat} {p1 : Int32} {p2 : Int32} {e : Int32} (hS : SR sh R) (hd : 2 ≤ d) (h : f_X12_press M p1 p2 = some e) : MX yX12_press cX12_press 5 (some .int) d 0 0 X [.ref 73, .int p1, .int p2] sh M L R n (px_pu (some (.int e)) sh M L R n) := by
  refine MX.of (by decide +kernel) (by exact Nat.le_of_ble_eq_true rfl) ?_
  have hcu : 0 ≤ 0 := Nat.zero_le _
  have hsu : 0 ≤ 0 := Nat.zero_le _
  have g : px_pu (some (.int e)) sh M L R n (some (.int e)) sh M L R n := ⟨rfl, rfl, rfl, rfl, rfl, rfl⟩
  unfold f_X12_press at h
  refine wx_aload_n dX12_press_0 rfl ?_
  refine wx_iload_n dX12_press_1 rfl ?_
  refine wx_iload_n dX12_press_2 rfl ?_
  obtain ⟨e_3, k_3, h⟩ := bd1_some h
  refine wx_cVi dX12_press_3 ml_X12_258 my_X12_slantOf iv_X12_slantOf (sc_73 hS) (by decide) (s_X12_slantOf (d := d - 1) hS (by omega) k_3) rfl (by omega) (by exact Nat.le_of_ble_eq_true rfl) hcu hsu ?_
  obtain ⟨e_6, k_6, h⟩ := bd1_some h
  refine wx_cSl dX12_press_6 ml_X12_262 my_X12_cos sv_X12_cos (s_X12_cos (d := d - 1) hS (by omega) k_6) rfl (by omega) (by exact Nat.le_of_ble_eq_true rfl) hcu hsu ?_
  refine wx_lstore_n (lv' := [(3, _), (0, _), (1, _), (2, _)]) dX12_press_9 (by decide) rfl ?_
  refine wx_aload_n dX12_press_10 rfl ?_
  refine wx_getR dX12_press_11 fl_X12_47 (sc_73 hS) rfl (rr_73_20 hS) ?_
  refine wx_iload_n dX12_press_14 rfl ?_
  obtain ⟨w_15, h⟩ := ok_some h
  refine wx_bald dX12_press_15 (sc_86 hS) (ix_in w_15) ?_
  refine wx_if_eq (tgt := 23) dX12_press_16 (by decide) (fun c_16 => ?_) (fun c_16 => ?_)
  · replace h := it_t h c_16
    refine wx_aload_n dX12_press_23 rfl ?_
    refine wx_getR dX12_press_24 fl_X12_32 (sc_73 hS) rfl (rr_73_15 hS) ?_
    refine wx_iload_n dX12_press_27 rfl ?_
    obtain ⟨w_28, h⟩ := ok_some h
    refine wx_iald dX12_press_28 (sc_81 hS) (ix_in w_28) ?_
    refine wx_i2l dX12_press_29 ?_
    refine wx_lload_n dX12_press_30 rfl ?_
    refine wx_lmul dX12_press_31 ?_
    refine wx_lload_n dX12_press_32 rfl ?_
    refine wx_lmul dX12_press_33 ?_
    refine wx_ldc2 dX12_press_34 kl_X12_266 ?_
    refine wx_aload_n dX12_press_37 rfl ?_
    refine wx_getR dX12_press_38 fl_X12_35 (sc_73 hS) rfl (rr_73_16 hS) ?_
    refine wx_iload_n dX12_press_41 rfl ?_
    obtain ⟨w_42, h⟩ := ok_some h
    refine wx_iald dX12_press_42 (sc_82 hS) (ix_in w_42) ?_
    refine wx_i2l dX12_press_43 ?_
    refine wx_lmul dX12_press_44 ?_
    refine wx_aload_n dX12_press_45 rfl ?_
    refine wx_getR dX12_press_46 fl_X12_38 (sc_73 hS) rfl (rr_73_17 hS) ?_
    refine wx_iload_n dX12_press_49 rfl ?_
    obtain ⟨w_50, h⟩ := ok_some h
    refine wx_iald dX12_press_50 (sc_83 hS) (ix_in w_50) ?_
    refine wx_i2l dX12_press_51 ?_
    refine wx_ladd dX12_press_52 ?_
    refine wx_lmul dX12_press_53 ?_
    refine wx_ldc2 dX12_press_54 kl_X12_268 ?_
    refine wx_ldiv dX12_press_57 (by decide) ?_
    refine wx_l2i dX12_press_58 ?_
    exact wx_sub (s_X12_press_59 hS hd hcu hsu h g) px_0
  · replace h := it_f h c_16
    refine wx_iconst (v := 0) dX12_press_19 (by decide) ?_
    refine wx_goto (tgt := 59) dX12_press_20 (by decide) ?_
    exact wx_sub (s_X12_press_59 hS hd hcu hsu h g) px_0
noncomputable def f_X12_turned_53 (M : px_M) (x1 : Int32) (x2 : Int32) (x4 : Int32) (z0 : Int32) (z1 : Int32) (z2 : Int32) : Option ((Int32 × Int32) ⊕ (Int32)) :=
  nm (z2 + (z1 * z0)) fun v_55 =>
  some (.inl (v_55, (x4 + 1)))
theorem s_X12_turned_53 {x1 : Int32} {x2 : Int32} {x4 : Int32} {z0 : Int32} {z1 : Int32} {z2 : Int32} {M : px_M} {L : px_L} {R : px_R} {e : ((Int32 × Int32) ⊕ (Int32))} (hS : SR sh R) (hd : 3 ≤ d) (hcu : cu ≤ mc) (hsu : su ≤ ms) (h : f_X12_turned_53 M x1 x2 x4 z0 z1 z2 = some e) (g : (sE (fun a => WX RX12 cX12_turned 5 (some .int) ("turned", []) d mc ms X (px_QF Post mc ms) 5 [(0, .ref 73), (1, .int x1), (2, .int x2), (3, .int a.1), (4, .int a.2)] [] sh M L R n cu su) (fun t => WX RX12 cX12_turned 5 (some .int) ("turned", []) d mc ms X (px_QF Post mc ms) 62 [(3, .int t)] [] sh M L R n cu su)) e) : WX RX12 cX12_turned 5 (some .int) ("turned", []) d mc ms X (px_QF Post mc ms) 53 [(0, .ref 73), (1, .int x1), (2, .int x2), (4, .int x4)] [.int z0, .int z1, .int z2] sh M L R n cu su := by
  unfold f_X12_turned_53 at h
  refine wx_imul dX12_turned_53 ?_
  refine wx_iadd dX12_turned_54 ?_
  refine wx_nami (fun v_55 q_55 => ?_)
  replace h := nm_at h q_55
  refine wx_istore_n (lv' := [(3, _), (0, _), (1, _), (2, _), (4, _)]) dX12_turned_55 (by decide) rfl ?_
  refine wx_iinc (lv' := [(4, _), (3, _), (0, _), (1, _), (2, _)]) dX12_turned_56 rfl (i_1 _) (by decide) rfl ?_
  refine wx_goto (tgt := 5) dX12_turned_59 (by decide) ?_
  obtain rfl := Option.some.inj h
  replace g := sE_l g
  exact wx_sub g (px_s rfl (px_s rfl (px_s rfl (px_s rfl (px_s rfl px_0)))))
noncomputable def f_X12_turned_5 (M : px_M) (x1 : Int32) (x2 : Int32) (x3 : Int32) (x4 : Int32) : Option ((Int32 × Int32) ⊕ (Int32)) :=
  if (M 73 9) ≤ x4 then
    some (.inr x3)
  else
    bd1 (f_X12_press M x4 x1) fun e_19 =>
    if x2 = 0 then
      ok (ix x4 16) <|
      f_X12_turned_53 M x1 x2 x4 ((M 79 x4.toNatClampNeg) - (M 73 11)) e_19 x3
    else
      ok (ix x4 16) <|
      f_X12_turned_53 M x1 x2 x4 ((M 80 x4.toNatClampNeg) - (M 73 12)) e_19 x3
theorem s_X12_turned_5b {x1 : Int32} {x2 : Int32} {x3 : Int32} {x4 : Int32} {M : px_M} {L : px_L} {R : px_R} {e : ((Int32 × Int32) ⊕ (Int32))} (hS : SR sh R) (hd : 3 ≤ d) (hcu : cu ≤ mc) (hsu : su ≤ ms) (h : f_X12_turned_5 M x1 x2 x3 x4 = some e) (g : (sE (fun a => WX RX12 cX12_turned 5 (some .int) ("turned", []) d mc ms X (px_QF Post mc ms) 5 [(0, .ref 73), (1, .int x1), (2, .int x2), (3, .int a.1), (4, .int a.2)] [] sh M L R n cu su) (fun t => WX RX12 cX12_turned 5 (some .int) ("turned", []) d mc ms X (px_QF Post mc ms) 62 [(3, .int t)] [] sh M L R n cu su)) e) : WX RX12 cX12_turned 5 (some .int) ("turned", []) d mc ms X (px_QF Post mc ms) 5 [(0, .ref 73), (1, .int x1), (2, .int x2), (3, .int x3), (4, .int x4)] [] sh M L R n cu su := by
  unfold f_X12_turned_5 at h
  refine wx_iload dX12_turned_5 rfl ?_
  refine wx_aload_n dX12_turned_7 rfl ?_
  refine wx_getI dX12_turned_8 fl_X12_222 (sc_73 hS) rfl ?_
  refine wx_icmp_ge (tgt := 62) dX12_turned_11 (by decide) (fun c_11 => ?_) (fun c_11 => ?_)
  · replace h := it_t h c_11
    obtain rfl := Option.some.inj h
    replace g := sE_r g
    exact wx_sub g (px_s rfl px_0)
  · replace h := it_f h c_11
    refine wx_iload_n dX12_turned_14 rfl ?_
    refine wx_aload_n dX12_turned_15 rfl ?_
    refine wx_iload dX12_turned_16 rfl ?_
    refine wx_iload_n dX12_turned_18 rfl ?_
    obtain ⟨e_19, k_19, h⟩ := bd1_some h
    refine wx_cVi dX12_turned_19 ml_X12_283 my_X12_press iv_X12_press (sc_73 hS) (by decide) (s_X12_press (d := d - 1) hS (by omega) k_19) rfl (by omega) (by exact Nat.le_of_ble_eq_true rfl) hcu hsu ?_
    refine wx_iload_n dX12_turned_22 rfl ?_
    refine wx_if_ne (tgt := 41) dX12_turned_23 (by decide) (fun c_23 => ?_) (fun c_23 => ?_)
    · replace h := it_f h c_23
      refine wx_aload_n dX12_turned_41 rfl ?_
      refine wx_getR dX12_turned_42 fl_X12_29 (sc_73 hS) rfl (rr_73_14 hS) ?_
      refine wx_iload dX12_turned_45 rfl ?_
      obtain ⟨w_47, h⟩ := ok_some h
      refine wx_iald dX12_turned_47 (sc_80 hS) (ix_in w_47) ?_
      refine wx_aload_n dX12_turned_48 rfl ?_
      refine wx_getI dX12_turned_49 fl_X12_234 (sc_73 hS) rfl ?_
      refine wx_isub dX12_turned_52 ?_
      exact wx_sub (s_X12_turned_53 hS hd hcu hsu h g) (px_s rfl (px_s rfl (px_s rfl (px_s rfl px_0))))
    · replace h := it_t h c_23
      refine wx_aload_n dX12_turned_26 rfl ?_
      refine wx_getR dX12_turned_27 fl_X12_26 (sc_73 hS) rfl (rr_73_13 hS) ?_
      refine wx_iload dX12_turned_30 rfl ?_
      obtain ⟨w_32, h⟩ := ok_some h
      refine wx_iald dX12_turned_32 (sc_79 hS) (ix_in w_32) ?_
      refine wx_aload_n dX12_turned_33 rfl ?_
      refine wx_getI dX12_turned_34 fl_X12_231 (sc_73 hS) rfl ?_
      refine wx_isub dX12_turned_37 ?_
      refine wx_goto (tgt := 53) dX12_turned_38 (by decide) ?_
      exact wx_sub (s_X12_turned_53 hS hd hcu hsu h g) (px_s rfl (px_s rfl (px_s rfl (px_s rfl px_0))))
theorem s_X12_turned_5 {x1 : Int32} {x2 : Int32} {x3 : Int32} {x4 : Int32} {M : px_M} {L : px_L} {R : px_R} {e : (Int32)} (hS : SR sh R) (hd : 3 ≤ d) (hcu : cu ≤ mc) (hsu : su ≤ ms) (h : lpf (fun a : Int32 × Int32 => f_X12_turned_5 M x1 x2 a.1 a.2) (x3, x4) = some e) (g : WX RX12 cX12_turned 5 (some .int) ("turned", []) d mc ms X (px_QF Post mc ms) 62 [(3, .int e)] [] sh M L R n cu su) : WX RX12 cX12_turned 5 (some .int) ("turned", []) d mc ms X (px_QF Post mc ms) 5 [(0, .ref 73), (1, .int x1), (2, .int x2), (3, .int x3), (4, .int x4)] [] sh M L R n cu su := by
  have key := lpf_wp (P := (fun a => WX RX12 cX12_turned 5 (some .int) ("turned", []) d mc ms X (px_QF Post mc ms) 5 [(0, .ref 73), (1, .int x1), (2, .int x2), (3, .int a.1), (4, .int a.2)] [] sh M L R n cu su)) (G := (fun t => WX RX12 cX12_turned 5 (some .int) ("turned", []) d mc ms X (px_QF Post mc ms) 62 [(3, .int t)] [] sh M L R n cu su)) (fun a r h g => s_X12_turned_5b (x1 := x1) (x2 := x2) (x3 := a.1) (x4 := a.2) (M := M) (L := L) (R := R) hS hd hcu hsu h g) (a := (x3, x4)) h g
  exact key
noncomputable def f_X12_turned (M : px_M) (p1 : Int32) (p2 : Int32) : Option (Int32) :=
  bd1 (lpf (fun a : Int32 × Int32 => f_X12_turned_5 M p1 p2 a.1 a.2) (0, 0)) fun e_5 =>
  some e_5
theorem s_X12_turned {d : Nat} {X : Nat × (Nat → Int32)} {sh : px_Sh} {M : px_M} {L : px_L} {R : px_R} {n : Nat} {p1 : Int32} {p2 : Int32} {e : Int32} (hS : SR sh R) (hd : 3 ≤ d) (h : f_X12_turned M p1 p2 = some e) : MX yX12_turned cX12_turned 5 (some .int) d 0 0 X [.ref 73, .int p1, .int p2] sh M L R n (px_pu (some (.int e)) sh M L R n) := by
  refine MX.of (by decide +kernel) (by exact Nat.le_of_ble_eq_true rfl) ?_
  have hcu : 0 ≤ 0 := Nat.zero_le _
  have hsu : 0 ≤ 0 := Nat.zero_le _
  have g : px_pu (some (.int e)) sh M L R n (some (.int e)) sh M L R n := ⟨rfl, rfl, rfl, rfl, rfl, rfl⟩
  unfold f_X12_turned at h
  refine wx_iconst (v := 0) dX12_turned_0 (by decide) ?_
  refine wx_istore_n (lv' := [(3, _), (0, _), (1, _), (2, _)]) dX12_turned_1 (by decide) rfl ?_
  refine wx_iconst (v := 0) dX12_turned_2 (by decide) ?_
  refine wx_istore (lv' := [(4, _), (3, _), (0, _), (1, _), (2, _)]) dX12_turned_3 (by decide) rfl ?_
  obtain ⟨e_5, k_5, h⟩ := bd1_some h
  refine wx_sub (s_X12_turned_5 hS hd hcu hsu k_5 ?_) (px_s rfl (px_s rfl (px_s rfl (px_s rfl (px_s rfl px_0)))))
  refine wx_iload_n dX12_turned_62 rfl ?_
  refine wx_iret dX12_turned_63 hcu hsu ?_
  obtain rfl := Option.some.inj h
  exact g
end LIFT
