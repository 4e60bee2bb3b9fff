/-! the reference -/
section LIFT
variable {d mc ms : Nat} {X : Nat × (Nat → Int32)} {Post : px_Post} {sh : px_Sh} {n cu su : Nat}
noncomputable def o_X12_ands_50 (r_X12_test : px_M → Option (Int32 × px_M)) (M : px_M) (z0 : Int32) : Option ((Int32 × px_M) ⊕ (Int32 × px_M)) :=
  some (.inl (z0, M))
theorem so_X12_ands_50 {dr : Nat} {r_X12_test : px_M → Option (Int32 × px_M)} {z0 : Int32} {M : px_M} {L : px_L} {R : px_R} {e : ((Int32 × px_M) ⊕ (Int32 × px_M))} (h_X12_test : ∀ {d : Nat} {X : Nat × (Nat → Int32)} {sh : px_Sh} {M : px_M} {L : px_L} {R : px_R} {n : Nat} {e : Int32 × px_M}, SR sh R → dr ≤ d → r_X12_test M = some e → MX yX12_test cX12_test 4 (some .boolean) d 0 0 X [.ref 73] sh M L R n (px_pu (some (.int e.1)) sh e.2 L R n)) (hS : SR sh R) (hd : 3 ≤ d) (hdr : dr + 1 ≤ d) (hcu : cu ≤ mc) (hsu : su ≤ ms) (h : o_X12_ands_50 r_X12_test M z0 = some e) (g : (sE (fun a => WX RX12 cX12_ands 3 (some .boolean) ("ands", []) d mc ms X (px_QF Post mc ms) 5 [(0, .ref 73), (1, .int a.1)] [] sh (a.2) L R n cu su) (fun t => WX RX12 cX12_ands 3 (some .boolean) ("ands", []) d mc ms X (px_QF Post mc ms) 54 [(1, .int t.1)] [] sh (t.2) L R n cu su)) e) : WX RX12 cX12_ands 3 (some .boolean) ("ands", []) d mc ms X (px_QF Post mc ms) 50 [(0, .ref 73)] [.int z0] sh M L R n cu su := by
  unfold o_X12_ands_50 at h
  refine wx_istore_n (lv' := [(1, _), (0, _)]) dX12_ands_50 (by decide) rfl ?_
  refine wx_goto (tgt := 5) dX12_ands_51 (by decide) ?_
  obtain rfl := Option.some.inj h
  replace g := sE_l g
  exact wx_sub g (px_s rfl (px_s rfl px_0))
noncomputable def o_X12_ands_49 (r_X12_test : px_M → Option (Int32 × px_M)) (M : px_M) : Option ((Int32 × px_M) ⊕ (Int32 × px_M)) :=
  o_X12_ands_50 r_X12_test M 0
theorem so_X12_ands_49 {dr : Nat} {r_X12_test : px_M → Option (Int32 × px_M)} {M : px_M} {L : px_L} {R : px_R} {e : ((Int32 × px_M) ⊕ (Int32 × px_M))} (h_X12_test : ∀ {d : Nat} {X : Nat × (Nat → Int32)} {sh : px_Sh} {M : px_M} {L : px_L} {R : px_R} {n : Nat} {e : Int32 × px_M}, SR sh R → dr ≤ d → r_X12_test M = some e → MX yX12_test cX12_test 4 (some .boolean) d 0 0 X [.ref 73] sh M L R n (px_pu (some (.int e.1)) sh e.2 L R n)) (hS : SR sh R) (hd : 3 ≤ d) (hdr : dr + 1 ≤ d) (hcu : cu ≤ mc) (hsu : su ≤ ms) (h : o_X12_ands_49 r_X12_test M = some e) (g : (sE (fun a => WX RX12 cX12_ands 3 (some .boolean) ("ands", []) d mc ms X (px_QF Post mc ms) 5 [(0, .ref 73), (1, .int a.1)] [] sh (a.2) L R n cu su) (fun t => WX RX12 cX12_ands 3 (some .boolean) ("ands", []) d mc ms X (px_QF Post mc ms) 54 [(1, .int t.1)] [] sh (t.2) L R n cu su)) e) : WX RX12 cX12_ands 3 (some .boolean) ("ands", []) d mc ms X (px_QF Post mc ms) 49 [(0, .ref 73)] [] sh M L R n cu su := by
  unfold o_X12_ands_49 at h
  refine wx_iconst (v := 0) dX12_ands_49 (by decide) ?_
  exact wx_sub (so_X12_ands_50 h_X12_test hS hd hdr hcu hsu h g) (px_s rfl px_0)
noncomputable def o_X12_ands_5 (r_X12_test : px_M → Option (Int32 × px_M)) (M : px_M) (x1 : Int32) : Option ((Int32 × px_M) ⊕ (Int32 × px_M)) :=
  if (M 73 81) = 0 then
    bd1 (f_X12_wordHere M) fun e_13 =>
    bd1 (f_X12_word 1 14 4 0 0) fun e_22 =>
    if e_13.1 = e_22 then
      bd1 (f_X12_skipWord e_13.2) fun e_29 =>
      bd1 (r_X12_test e_29) fun e_33 =>
      if x1 = 0 then
        o_X12_ands_49 r_X12_test e_33.2
      else
        if e_33.1 = 0 then
          o_X12_ands_49 r_X12_test e_33.2
        else
          o_X12_ands_50 r_X12_test e_33.2 1
    else
      some (.inr (x1, e_13.2))
  else
    some (.inr (x1, M))
theorem so_X12_ands_5b {dr : Nat} {r_X12_test : px_M → Option (Int32 × px_M)} {x1 : Int32} {M : px_M} {L : px_L} {R : px_R} {e : ((Int32 × px_M) ⊕ (Int32 × px_M))} (h_X12_test : ∀ {d : Nat} {X : Nat × (Nat → Int32)} {sh : px_Sh} {M : px_M} {L : px_L} {R : px_R} {n : Nat} {e : Int32 × px_M}, SR sh R → dr ≤ d → r_X12_test M = some e → MX yX12_test cX12_test 4 (some .boolean) d 0 0 X [.ref 73] sh M L R n (px_pu (some (.int e.1)) sh e.2 L R n)) (hS : SR sh R) (hd : 3 ≤ d) (hdr : dr + 1 ≤ d) (hcu : cu ≤ mc) (hsu : su ≤ ms) (h : o_X12_ands_5 r_X12_test M x1 = some e) (g : (sE (fun a => WX RX12 cX12_ands 3 (some .boolean) ("ands", []) d mc ms X (px_QF Post mc ms) 5 [(0, .ref 73), (1, .int a.1)] [] sh (a.2) L R n cu su) (fun t => WX RX12 cX12_ands 3 (some .boolean) ("ands", []) d mc ms X (px_QF Post mc ms) 54 [(1, .int t.1)] [] sh (t.2) L R n cu su)) e) : WX RX12 cX12_ands 3 (some .boolean) ("ands", []) d mc ms X (px_QF Post mc ms) 5 [(0, .ref 73), (1, .int x1)] [] sh M L R n cu su := by
  unfold o_X12_ands_5 at h
  refine wx_aload_n dX12_ands_5 rfl ?_
  refine wx_getI dX12_ands_6 fl_X12_339 (sc_73 hS) rfl ?_
  refine wx_if_ne (tgt := 54) dX12_ands_9 (by decide) (fun c_9 => ?_) (fun c_9 => ?_)
  · replace h := it_f h c_9
    obtain rfl := Option.some.inj h
    replace g := sE_r g
    exact wx_sub g (px_s rfl px_0)
  · replace h := it_t h c_9
    refine wx_aload_n dX12_ands_12 rfl ?_
    obtain ⟨e_13, k_13, h⟩ := bd1_some h
    refine wx_cVi dX12_ands_13 ml_X12_361 my_X12_wordHere iv_X12_wordHere (sc_73 hS) (by decide) (s_X12_wordHere (d := d - 1) hS (by omega) k_13) rfl (by omega) (by exact Nat.le_of_ble_eq_true rfl) hcu hsu ?_
    refine wx_iconst (v := 1) dX12_ands_16 (by decide) ?_
    refine wx_bipush (v := 14) dX12_ands_17 (by decide) ?_
    refine wx_iconst (v := 4) dX12_ands_19 (by decide) ?_
    refine wx_iconst (v := 0) dX12_ands_20 (by decide) ?_
    refine wx_iconst (v := 0) dX12_ands_21 (by decide) ?_
    obtain ⟨e_22, k_22, h⟩ := bd1_some h
    refine wx_cSi dX12_ands_22 ml_X12_364 my_X12_word sv_X12_word (s_X12_word (d := d - 1) hS (by omega) k_22) rfl (by omega) (by exact Nat.le_of_ble_eq_true rfl) hcu hsu ?_
    refine wx_icmp_ne (tgt := 54) dX12_ands_25 (by decide) (fun c_25 => ?_) (fun c_25 => ?_)
    · replace h := it_f h c_25
      obtain rfl := Option.some.inj h
      replace g := sE_r g
      exact wx_sub g (px_s rfl px_0)
    · replace h := it_t h c_25
      refine wx_aload_n dX12_ands_28 rfl ?_
      obtain ⟨e_29, k_29, h⟩ := bd1_some h
      refine wx_cVv dX12_ands_29 ml_X12_374 my_X12_skipWord iv_X12_skipWord (sc_73 hS) (by decide) (s_X12_skipWord (d := d - 1) hS (by omega) k_29) rfl (by omega) (by exact Nat.le_of_ble_eq_true rfl) hcu hsu ?_
      refine wx_aload_n dX12_ands_32 rfl ?_
      obtain ⟨e_33, k_33, h⟩ := bd1_some h
      refine wx_cVi dX12_ands_33 ml_X12_396 my_X12_test iv_X12_test (sc_73 hS) (by decide) (h_X12_test (d := d - 1) hS (by omega) k_33) rfl (by omega) (by exact Nat.le_of_ble_eq_true rfl) hcu hsu ?_
      refine wx_istore_n (lv' := [(2, _), (0, _), (1, _)]) dX12_ands_36 (by decide) rfl ?_
      refine wx_iload_n dX12_ands_37 rfl ?_
      refine wx_if_eq (tgt := 49) dX12_ands_38 (by decide) (fun c_38 => ?_) (fun c_38 => ?_)
      · replace h := it_t h c_38
        exact wx_sub (so_X12_ands_49 h_X12_test hS hd hdr hcu hsu h g) (px_s rfl px_0)
      · replace h := it_f h c_38
        refine wx_iload_n dX12_ands_41 rfl ?_
        refine wx_if_eq (tgt := 49) dX12_ands_42 (by decide) (fun c_42 => ?_) (fun c_42 => ?_)
        · replace h := it_t h c_42
          exact wx_sub (so_X12_ands_49 h_X12_test hS hd hdr hcu hsu h g) (px_s rfl px_0)
        · replace h := it_f h c_42
          refine wx_iconst (v := 1) dX12_ands_45 (by decide) ?_
          refine wx_goto (tgt := 50) dX12_ands_46 (by decide) ?_
          exact wx_sub (so_X12_ands_50 h_X12_test hS hd hdr hcu hsu h g) (px_s rfl px_0)
theorem so_X12_ands_5 {dr : Nat} {r_X12_test : px_M → Option (Int32 × px_M)} {x1 : Int32} {M : px_M} {L : px_L} {R : px_R} {e : (Int32 × px_M)} (h_X12_test : ∀ {d : Nat} {X : Nat × (Nat → Int32)} {sh : px_Sh} {M : px_M} {L : px_L} {R : px_R} {n : Nat} {e : Int32 × px_M}, SR sh R → dr ≤ d → r_X12_test M = some e → MX yX12_test cX12_test 4 (some .boolean) d 0 0 X [.ref 73] sh M L R n (px_pu (some (.int e.1)) sh e.2 L R n)) (hS : SR sh R) (hd : 3 ≤ d) (hdr : dr + 1 ≤ d) (hcu : cu ≤ mc) (hsu : su ≤ ms) (h : lpf (fun a : Int32 × px_M => o_X12_ands_5 r_X12_test a.2 a.1) (x1, M) = some e) (g : WX RX12 cX12_ands 3 (some .boolean) ("ands", []) d mc ms X (px_QF Post mc ms) 54 [(1, .int e.1)] [] sh (e.2) L R n cu su) : WX RX12 cX12_ands 3 (some .boolean) ("ands", []) d mc ms X (px_QF Post mc ms) 5 [(0, .ref 73), (1, .int x1)] [] sh M L R n cu su := by
  have key := lpf_wp (P := (fun a => WX RX12 cX12_ands 3 (some .boolean) ("ands", []) d mc ms X (px_QF Post mc ms) 5 [(0, .ref 73), (1, .int a.1)] [] sh (a.2) L R n cu su)) (G := (fun t => WX RX12 cX12_ands 3 (some .boolean) ("ands", []) d mc ms X (px_QF Post mc ms) 54 [(1, .int t.1)] [] sh (t.2) L R n cu su)) (fun a r h g => so_X12_ands_5b (x1 := a.1) (M := a.2) (L := L) (R := R) h_X12_test hS hd hdr hcu hsu h g) (a := (x1, M)) h g
  exact key
noncomputable def o_X12_ands (r_X12_test : px_M → Option (Int32 × px_M)) (M : px_M) : Option (Int32 × px_M) :=
  bd1 (r_X12_test M) fun e_1 =>
  bd1 (lpf (fun a : Int32 × px_M => o_X12_ands_5 r_X12_test a.2 a.1) (e_1.1, e_1.2)) fun e_5 =>
  ok (zb e_5.1) <|
  some (e_5.1, e_5.2)
theorem so_X12_ands {dr : Nat} {r_X12_test : px_M → Option (Int32 × px_M)} {d : Nat} {X : Nat × (Nat → Int32)} {sh : px_Sh} {M : px_M} {L : px_L} {R : px_R} {n : Nat} {e : Int32 × px_M} (h_X12_test : ∀ {d : Nat} {X : Nat × (Nat → Int32)} {sh : px_Sh} {M : px_M} {L : px_L} {R : px_R} {n : Nat} {e : Int32 × px_M}, SR sh R → dr ≤ d → r_X12_test M = some e → MX yX12_test cX12_test 4 (some .boolean) d 0 0 X [.ref 73] sh M L R n (px_pu (some (.int e.1)) sh e.2 L R n)) (hS : SR sh R) (hd : 3 ≤ d) (hdr : dr + 1 ≤ d) (h : o_X12_ands r_X12_test M = some e) : MX yX12_ands cX12_ands 3 (some .boolean) d 0 0 X [.ref 73] sh M L R n (px_pu (some (.int e.1)) sh e.2 L R n) := by
  refine MX.of (by decide +kernel) (by exact Nat.le_of_ble_eq_true rfl) ?_
  have hcu : 0 ≤ 0 := Nat.zero_le _
  have hsu : 0 ≤ 0 := Nat.zero_le _
  have g : px_pu (some (.int e.1)) sh e.2 L R n (some (.int e.1)) sh e.2 L R n := ⟨rfl, rfl, rfl, rfl, rfl, rfl⟩
  unfold o_X12_ands at h
  refine wx_aload_n dX12_ands_0 rfl ?_
  obtain ⟨e_1, k_1, h⟩ := bd1_some h
  refine wx_cVi dX12_ands_1 ml_X12_396 my_X12_test iv_X12_test (sc_73 hS) (by decide) (h_X12_test (d := d - 1) hS (by omega) k_1) rfl (by omega) (by exact Nat.le_of_ble_eq_true rfl) hcu hsu ?_
  refine wx_istore_n (lv' := [(1, _), (0, _)]) dX12_ands_4 (by decide) rfl ?_
  obtain ⟨e_5, k_5, h⟩ := bd1_some h
  refine wx_sub (so_X12_ands_5 h_X12_test hS hd hdr hcu hsu k_5 ?_) (px_s rfl (px_s rfl px_0))
  refine wx_iload_n dX12_ands_54 rfl ?_
  obtain ⟨w_55, h⟩ := ok_some h
  refine wx_zret dX12_ands_55 (zb_n w_55) hcu hsu ?_
  obtain rfl := Option.some.inj h
  exact g
noncomputable def o_X12_ors_51 (r_X12_test : px_M → Option (Int32 × px_M)) (M : px_M) (z0 : Int32) : Option ((Int32 × px_M) ⊕ (Int32 × px_M)) :=
  some (.inl (z0, M))
theorem so_X12_ors_51 {dr : Nat} {r_X12_test : px_M → Option (Int32 × px_M)} {z0 : Int32} {M : px_M} {L : px_L} {R : px_R} {e : ((Int32 × px_M) ⊕ (Int32 × px_M))} (h_X12_test : ∀ {d : Nat} {X : Nat × (Nat → Int32)} {sh : px_Sh} {M : px_M} {L : px_L} {R : px_R} {n : Nat} {e : Int32 × px_M}, SR sh R → dr ≤ d → r_X12_test M = some e → MX yX12_test cX12_test 4 (some .boolean) d 0 0 X [.ref 73] sh M L R n (px_pu (some (.int e.1)) sh e.2 L R n)) (hS : SR sh R) (hd : 4 ≤ d) (hdr : dr + 2 ≤ d) (hcu : cu ≤ mc) (hsu : su ≤ ms) (h : o_X12_ors_51 r_X12_test M z0 = some e) (g : (sE (fun a => WX RX12 cX12_ors 3 (some .boolean) ("ors", []) d mc ms X (px_QF Post mc ms) 5 [(0, .ref 73), (1, .int a.1)] [] sh (a.2) L R n cu su) (fun t => WX RX12 cX12_ors 3 (some .boolean) ("ors", []) d mc ms X (px_QF Post mc ms) 55 [(1, .int t.1)] [] sh (t.2) L R n cu su)) e) : WX RX12 cX12_ors 3 (some .boolean) ("ors", []) d mc ms X (px_QF Post mc ms) 51 [(0, .ref 73)] [.int z0] sh M L R n cu su := by
  unfold o_X12_ors_51 at h
  refine wx_istore_n (lv' := [(1, _), (0, _)]) dX12_ors_51 (by decide) rfl ?_
  refine wx_goto (tgt := 5) dX12_ors_52 (by decide) ?_
  obtain rfl := Option.some.inj h
  replace g := sE_l g
  exact wx_sub g (px_s rfl (px_s rfl px_0))
noncomputable def o_X12_ors_46 (r_X12_test : px_M → Option (Int32 × px_M)) (M : px_M) : Option ((Int32 × px_M) ⊕ (Int32 × px_M)) :=
  o_X12_ors_51 r_X12_test M 1
theorem so_X12_ors_46 {dr : Nat} {r_X12_test : px_M → Option (Int32 × px_M)} {M : px_M} {L : px_L} {R : px_R} {e : ((Int32 × px_M) ⊕ (Int32 × px_M))} (h_X12_test : ∀ {d : Nat} {X : Nat × (Nat → Int32)} {sh : px_Sh} {M : px_M} {L : px_L} {R : px_R} {n : Nat} {e : Int32 × px_M}, SR sh R → dr ≤ d → r_X12_test M = some e → MX yX12_test cX12_test 4 (some .boolean) d 0 0 X [.ref 73] sh M L R n (px_pu (some (.int e.1)) sh e.2 L R n)) (hS : SR sh R) (hd : 4 ≤ d) (hdr : dr + 2 ≤ d) (hcu : cu ≤ mc) (hsu : su ≤ ms) (h : o_X12_ors_46 r_X12_test M = some e) (g : (sE (fun a => WX RX12 cX12_ors 3 (some .boolean) ("ors", []) d mc ms X (px_QF Post mc ms) 5 [(0, .ref 73), (1, .int a.1)] [] sh (a.2) L R n cu su) (fun t => WX RX12 cX12_ors 3 (some .boolean) ("ors", []) d mc ms X (px_QF Post mc ms) 55 [(1, .int t.1)] [] sh (t.2) L R n cu su)) e) : WX RX12 cX12_ors 3 (some .boolean) ("ors", []) d mc ms X (px_QF Post mc ms) 46 [(0, .ref 73)] [] sh M L R n cu su := by
  unfold o_X12_ors_46 at h
  refine wx_iconst (v := 1) dX12_ors_46 (by decide) ?_
  refine wx_goto (tgt := 51) dX12_ors_47 (by decide) ?_
  exact wx_sub (so_X12_ors_51 h_X12_test hS hd hdr hcu hsu h g) (px_s rfl px_0)
noncomputable def o_X12_ors_5 (r_X12_test : px_M → Option (Int32 × px_M)) (M : px_M) (x1 : Int32) : Option ((Int32 × px_M) ⊕ (Int32 × px_M)) :=
  if (M 73 81) = 0 then
    bd1 (f_X12_wordHere M) fun e_13 =>
    bd1 (f_X12_word 15 18 0 0 0) fun e_23 =>
    if e_13.1 = e_23 then
      bd1 (f_X12_skipWord e_13.2) fun e_30 =>
      bd1 (o_X12_ands r_X12_test e_30) fun e_34 =>
      if x1 = 0 then
        if e_34.1 = 0 then
          o_X12_ors_51 r_X12_test e_34.2 0
        else
          o_X12_ors_46 r_X12_test e_34.2
      else
        o_X12_ors_46 r_X12_test e_34.2
    else
      some (.inr (x1, e_13.2))
  else
    some (.inr (x1, M))
theorem so_X12_ors_5b {dr : Nat} {r_X12_test : px_M → Option (Int32 × px_M)} {x1 : Int32} {M : px_M} {L : px_L} {R : px_R} {e : ((Int32 × px_M) ⊕ (Int32 × px_M))} (h_X12_test : ∀ {d : Nat} {X : Nat × (Nat → Int32)} {sh : px_Sh} {M : px_M} {L : px_L} {R : px_R} {n : Nat} {e : Int32 × px_M}, SR sh R → dr ≤ d → r_X12_test M = some e → MX yX12_test cX12_test 4 (some .boolean) d 0 0 X [.ref 73] sh M L R n (px_pu (some (.int e.1)) sh e.2 L R n)) (hS : SR sh R) (hd : 4 ≤ d) (hdr : dr + 2 ≤ d) (hcu : cu ≤ mc) (hsu : su ≤ ms) (h : o_X12_ors_5 r_X12_test M x1 = some e) (g : (sE (fun a => WX RX12 cX12_ors 3 (some .boolean) ("ors", []) d mc ms X (px_QF Post mc ms) 5 [(0, .ref 73), (1, .int a.1)] [] sh (a.2) L R n cu su) (fun t => WX RX12 cX12_ors 3 (some .boolean) ("ors", []) d mc ms X (px_QF Post mc ms) 55 [(1, .int t.1)] [] sh (t.2) L R n cu su)) e) : WX RX12 cX12_ors 3 (some .boolean) ("ors", []) d mc ms X (px_QF Post mc ms) 5 [(0, .ref 73), (1, .int x1)] [] sh M L R n cu su := by
  unfold o_X12_ors_5 at h
  refine wx_aload_n dX12_ors_5 rfl ?_
  refine wx_getI dX12_ors_6 fl_X12_339 (sc_73 hS) rfl ?_
  refine wx_if_ne (tgt := 55) dX12_ors_9 (by decide) (fun c_9 => ?_) (fun c_9 => ?_)
  · replace h := it_f h c_9
    obtain rfl := Option.some.inj h
    replace g := sE_r g
    exact wx_sub g (px_s rfl px_0)
  · replace h := it_t h c_9
    refine wx_aload_n dX12_ors_12 rfl ?_
    obtain ⟨e_13, k_13, h⟩ := bd1_some h
    refine wx_cVi dX12_ors_13 ml_X12_361 my_X12_wordHere iv_X12_wordHere (sc_73 hS) (by decide) (s_X12_wordHere (d := d - 1) hS (by omega) k_13) rfl (by omega) (by exact Nat.le_of_ble_eq_true rfl) hcu hsu ?_
    refine wx_bipush (v := 15) dX12_ors_16 (by decide) ?_
    refine wx_bipush (v := 18) dX12_ors_18 (by decide) ?_
    refine wx_iconst (v := 0) dX12_ors_20 (by decide) ?_
    refine wx_iconst (v := 0) dX12_ors_21 (by decide) ?_
    refine wx_iconst (v := 0) dX12_ors_22 (by decide) ?_
    obtain ⟨e_23, k_23, h⟩ := bd1_some h
    refine wx_cSi dX12_ors_23 ml_X12_364 my_X12_word sv_X12_word (s_X12_word (d := d - 1) hS (by omega) k_23) rfl (by omega) (by exact Nat.le_of_ble_eq_true rfl) hcu hsu ?_
    refine wx_icmp_ne (tgt := 55) dX12_ors_26 (by decide) (fun c_26 => ?_) (fun c_26 => ?_)
    · replace h := it_f h c_26
      obtain rfl := Option.some.inj h
      replace g := sE_r g
      exact wx_sub g (px_s rfl px_0)
    · replace h := it_t h c_26
      refine wx_aload_n dX12_ors_29 rfl ?_
      obtain ⟨e_30, k_30, h⟩ := bd1_some h
      refine wx_cVv dX12_ors_30 ml_X12_374 my_X12_skipWord iv_X12_skipWord (sc_73 hS) (by decide) (s_X12_skipWord (d := d - 1) hS (by omega) k_30) rfl (by omega) (by exact Nat.le_of_ble_eq_true rfl) hcu hsu ?_
      refine wx_aload_n dX12_ors_33 rfl ?_
      obtain ⟨e_34, k_34, h⟩ := bd1_some h
      refine wx_cVi dX12_ors_34 ml_X12_403 my_X12_ands iv_X12_ands (sc_73 hS) (by decide) (so_X12_ands (d := d - 1) h_X12_test hS (by omega) (by omega) k_34) rfl (by omega) (by exact Nat.le_of_ble_eq_true rfl) hcu hsu ?_
      refine wx_istore_n (lv' := [(2, _), (0, _), (1, _)]) dX12_ors_37 (by decide) rfl ?_
      refine wx_iload_n dX12_ors_38 rfl ?_
      refine wx_if_ne (tgt := 46) dX12_ors_39 (by decide) (fun c_39 => ?_) (fun c_39 => ?_)
      · replace h := it_f h c_39
        exact wx_sub (so_X12_ors_46 h_X12_test hS hd hdr hcu hsu h g) (px_s rfl px_0)
      · replace h := it_t h c_39
        refine wx_iload_n dX12_ors_42 rfl ?_
        refine wx_if_eq (tgt := 50) dX12_ors_43 (by decide) (fun c_43 => ?_) (fun c_43 => ?_)
        · replace h := it_t h c_43
          refine wx_iconst (v := 0) dX12_ors_50 (by decide) ?_
          exact wx_sub (so_X12_ors_51 h_X12_test hS hd hdr hcu hsu h g) (px_s rfl px_0)
        · replace h := it_f h c_43
          exact wx_sub (so_X12_ors_46 h_X12_test hS hd hdr hcu hsu h g) (px_s rfl px_0)
theorem so_X12_ors_5 {dr : Nat} {r_X12_test : px_M → Option (Int32 × px_M)} {x1 : Int32} {M : px_M} {L : px_L} {R : px_R} {e : (Int32 × px_M)} (h_X12_test : ∀ {d : Nat} {X : Nat × (Nat → Int32)} {sh : px_Sh} {M : px_M} {L : px_L} {R : px_R} {n : Nat} {e : Int32 × px_M}, SR sh R → dr ≤ d → r_X12_test M = some e → MX yX12_test cX12_test 4 (some .boolean) d 0 0 X [.ref 73] sh M L R n (px_pu (some (.int e.1)) sh e.2 L R n)) (hS : SR sh R) (hd : 4 ≤ d) (hdr : dr + 2 ≤ d) (hcu : cu ≤ mc) (hsu : su ≤ ms) (h : lpf (fun a : Int32 × px_M => o_X12_ors_5 r_X12_test a.2 a.1) (x1, M) = some e) (g : WX RX12 cX12_ors 3 (some .boolean) ("ors", []) d mc ms X (px_QF Post mc ms) 55 [(1, .int e.1)] [] sh (e.2) L R n cu su) : WX RX12 cX12_ors 3 (some .boolean) ("ors", []) d mc ms X (px_QF Post mc ms) 5 [(0, .ref 73), (1, .int x1)] [] sh M L R n cu su := by
  have key := lpf_wp (P := (fun a => WX RX12 cX12_ors 3 (some .boolean) ("ors", []) d mc ms X (px_QF Post mc ms) 5 [(0, .ref 73), (1, .int a.1)] [] sh (a.2) L R n cu su)) (G := (fun t => WX RX12 cX12_ors 3 (some .boolean) ("ors", []) d mc ms X (px_QF Post mc ms) 55 [(1, .int t.1)] [] sh (t.2) L R n cu su)) (fun a r h g => so_X12_ors_5b (x1 := a.1) (M := a.2) (L := L) (R := R) h_X12_test hS hd hdr hcu hsu h g) (a := (x1, M)) h g
  exact key
noncomputable def o_X12_ors (r_X12_test : px_M → Option (Int32 × px_M)) (M : px_M) : Option (Int32 × px_M) :=
  bd1 (o_X12_ands r_X12_test M) fun e_1 =>
  bd1 (lpf (fun a : Int32 × px_M => o_X12_ors_5 r_X12_test a.2 a.1) (e_1.1, e_1.2)) fun e_5 =>
  ok (zb e_5.1) <|
  some (e_5.1, e_5.2)
theorem so_X12_ors {dr : Nat} {r_X12_test : px_M → Option (Int32 × px_M)} {d : Nat} {X : Nat × (Nat → Int32)} {sh : px_Sh} {M : px_M} {L : px_L} {R : px_R} {n : Nat} {e : Int32 × px_M} (h_X12_test : ∀ {d : Nat} {X : Nat × (Nat → Int32)} {sh : px_Sh} {M : px_M} {L : px_L} {R : px_R} {n : Nat} {e : Int32 × px_M}, SR sh R → dr ≤ d → r_X12_test M = some e → MX yX12_test cX12_test 4 (some .boolean) d 0 0 X [.ref 73] sh M L R n (px_pu (some (.int e.1)) sh e.2 L R n)) (hS : SR sh R) (hd : 4 ≤ d) (hdr : dr + 2 ≤ d) (h : o_X12_ors r_X12_test M = some e) : MX yX12_ors cX12_ors 3 (some .boolean) d 0 0 X [.ref 73] sh M L R n (px_pu (some (.int e.1)) sh e.2 L R n) := by
  refine MX.of (by decide +kernel) (by exact Nat.le_of_ble_eq_true rfl) ?_
  have hcu : 0 ≤ 0 := Nat.zero_le _
  have hsu : 0 ≤ 0 := Nat.zero_le _
  have g : px_pu (some (.int e.1)) sh e.2 L R n (some (.int e.1)) sh e.2 L R n := ⟨rfl, rfl, rfl, rfl, rfl, rfl⟩
  unfold o_X12_ors at h
  refine wx_aload_n dX12_ors_0 rfl ?_
  obtain ⟨e_1, k_1, h⟩ := bd1_some h
  refine wx_cVi dX12_ors_1 ml_X12_403 my_X12_ands iv_X12_ands (sc_73 hS) (by decide) (so_X12_ands (d := d - 1) h_X12_test hS (by omega) (by omega) k_1) rfl (by omega) (by exact Nat.le_of_ble_eq_true rfl) hcu hsu ?_
  refine wx_istore_n (lv' := [(1, _), (0, _)]) dX12_ors_4 (by decide) rfl ?_
  obtain ⟨e_5, k_5, h⟩ := bd1_some h
  refine wx_sub (so_X12_ors_5 h_X12_test hS hd hdr hcu hsu k_5 ?_) (px_s rfl (px_s rfl px_0))
  refine wx_iload_n dX12_ors_55 rfl ?_
  obtain ⟨w_56, h⟩ := ok_some h
  refine wx_zret dX12_ors_56 (zb_n w_56) hcu hsu ?_
  obtain rfl := Option.some.inj h
  exact g
noncomputable def o_X12_test_206 (r_X12_test : px_M → Option (Int32 × px_M)) (M : px_M) (z0 : Int32) : Option (Int32 × px_M) :=
  ok (zb z0) <|
  some (z0, M)
theorem so_X12_test_206 {dr : Nat} {r_X12_test : px_M → Option (Int32 × px_M)} {z0 : Int32} {M : px_M} {L : px_L} {R : px_R} {e : (Int32 × px_M)} (h_X12_test : ∀ {d : Nat} {X : Nat × (Nat → Int32)} {sh : px_Sh} {M : px_M} {L : px_L} {R : px_R} {n : Nat} {e : Int32 × px_M}, SR sh R → dr ≤ d → r_X12_test M = some e → MX yX12_test cX12_test 4 (some .boolean) d 0 0 X [.ref 73] sh M L R n (px_pu (some (.int e.1)) sh e.2 L R n)) (hS : SR sh R) (hd : 36 ≤ d) (hdr : dr + 3 ≤ d) (hcu : cu ≤ mc) (hsu : su ≤ ms) (h : o_X12_test_206 r_X12_test M z0 = some e) (g : Post (some (.int (e.1))) sh (e.2) L R n) : WX RX12 cX12_test 4 (some .boolean) ("test", []) d mc ms X (px_QF Post mc ms) 206 [] [.int z0] sh M L R n cu su := by
  unfold o_X12_test_206 at h
  obtain ⟨w_206, h⟩ := ok_some h
  refine wx_zret dX12_test_206 (zb_n w_206) hcu hsu ?_
  obtain rfl := Option.some.inj h
  exact g
noncomputable def o_X12_test_143 (r_X12_test : px_M → Option (Int32 × px_M)) (M : px_M) (x1 : Int32) (x2 : Int32) : Option (Int32 × px_M) :=
  nm ((M 73 78) + 1) fun v_150 =>
  nm (px_u M 73 78 v_150) fun M_150 =>
  bd1 (f_X12_sum M_150) fun e_154 =>
  if x2 = 60 then
    if e_154.1 ≤ x1 then
      o_X12_test_206 r_X12_test e_154.2 0
    else
      o_X12_test_206 r_X12_test e_154.2 1
  else
    if x2 = 62 then
      if x1 ≤ e_154.1 then
        o_X12_test_206 r_X12_test e_154.2 0
      else
        o_X12_test_206 r_X12_test e_154.2 1
    else
      if x1 = e_154.1 then
        o_X12_test_206 r_X12_test e_154.2 1
      else
        o_X12_test_206 r_X12_test e_154.2 0
theorem so_X12_test_143 {dr : Nat} {r_X12_test : px_M → Option (Int32 × px_M)} {x1 : Int32} {x2 : Int32} {M : px_M} {L : px_L} {R : px_R} {e : (Int32 × px_M)} (h_X12_test : ∀ {d : Nat} {X : Nat × (Nat → Int32)} {sh : px_Sh} {M : px_M} {L : px_L} {R : px_R} {n : Nat} {e : Int32 × px_M}, SR sh R → dr ≤ d → r_X12_test M = some e → MX yX12_test cX12_test 4 (some .boolean) d 0 0 X [.ref 73] sh M L R n (px_pu (some (.int e.1)) sh e.2 L R n)) (hS : SR sh R) (hd : 36 ≤ d) (hdr : dr + 3 ≤ d) (hcu : cu ≤ mc) (hsu : su ≤ ms) (h : o_X12_test_143 r_X12_test M x1 x2 = some e) (g : Post (some (.int (e.1))) sh (e.2) L R n) : WX RX12 cX12_test 4 (some .boolean) ("test", []) d mc ms X (px_QF Post mc ms) 143 [(0, .ref 73), (1, .int x1), (2, .int x2)] [] sh M L R n cu su := by
  unfold o_X12_test_143 at h
  refine wx_aload_n dX12_test_143 rfl ?_
  refine wx_dup dX12_test_144 rfl ?_
  refine wx_getI dX12_test_145 fl_X12_333 (sc_73 hS) rfl ?_
  refine wx_iconst (v := 1) dX12_test_148 (by decide) ?_
  refine wx_iadd dX12_test_149 ?_
  refine wx_nami (fun v_150 q_150 => ?_)
  replace h := nm_at h q_150
  refine wx_putI dX12_test_150 fl_X12_333 (sc_73 hS) (Or.inl rfl) rfl ⟨rfl, rfl⟩ ?_
  refine wx_namM (fun M_150 q_150 => ?_)
  replace h := nm_at h q_150
  refine wx_aload_n dX12_test_153 rfl ?_
  obtain ⟨e_154, k_154, h⟩ := bd1_some h
  refine wx_cVi dX12_test_154 ml_X12_384 my_X12_sum iv_X12_sum (sc_73 hS) (by decide) (s_X12_sum (d := d - 1) hS (by omega) k_154) rfl (by omega) (by exact Nat.le_of_ble_eq_true rfl) hcu hsu ?_
  refine wx_istore_n (lv' := [(3, _), (0, _), (1, _), (2, _)]) dX12_test_157 (by decide) rfl ?_
  refine wx_iload_n dX12_test_158 rfl ?_
  refine wx_bipush (v := 60) dX12_test_159 (by decide) ?_
  refine wx_icmp_ne (tgt := 177) dX12_test_161 (by decide) (fun c_161 => ?_) (fun c_161 => ?_)
  · replace h := it_f h c_161
    refine wx_iload_n dX12_test_177 rfl ?_
    refine wx_bipush (v := 62) dX12_test_178 (by decide) ?_
    refine wx_icmp_ne (tgt := 196) dX12_test_180 (by decide) (fun c_180 => ?_) (fun c_180 => ?_)
    · replace h := it_f h c_180
      refine wx_iload_n dX12_test_196 rfl ?_
      refine wx_iload_n dX12_test_197 rfl ?_
      refine wx_icmp_ne (tgt := 205) dX12_test_198 (by decide) (fun c_198 => ?_) (fun c_198 => ?_)
      · replace h := it_f h c_198
        refine wx_iconst (v := 0) dX12_test_205 (by decide) ?_
        exact wx_sub (so_X12_test_206 h_X12_test hS hd hdr hcu hsu h g) px_0
      · replace h := it_t h c_198
        refine wx_iconst (v := 1) dX12_test_201 (by decide) ?_
        refine wx_goto (tgt := 206) dX12_test_202 (by decide) ?_
        exact wx_sub (so_X12_test_206 h_X12_test hS hd hdr hcu hsu h g) px_0
    · replace h := it_t h c_180
      refine wx_iload_n dX12_test_183 rfl ?_
      refine wx_iload_n dX12_test_184 rfl ?_
      refine wx_icmp_le (tgt := 192) dX12_test_185 (by decide) (fun c_185 => ?_) (fun c_185 => ?_)
      · replace h := it_t h c_185
        refine wx_iconst (v := 0) dX12_test_192 (by decide) ?_
        refine wx_goto (tgt := 206) dX12_test_193 (by decide) ?_
        exact wx_sub (so_X12_test_206 h_X12_test hS hd hdr hcu hsu h g) px_0
      · replace h := it_f h c_185
        refine wx_iconst (v := 1) dX12_test_188 (by decide) ?_
        refine wx_goto (tgt := 206) dX12_test_189 (by decide) ?_
        exact wx_sub (so_X12_test_206 h_X12_test hS hd hdr hcu hsu h g) px_0
  · replace h := it_t h c_161
    refine wx_iload_n dX12_test_164 rfl ?_
    refine wx_iload_n dX12_test_165 rfl ?_
    refine wx_icmp_ge (tgt := 173) dX12_test_166 (by decide) (fun c_166 => ?_) (fun c_166 => ?_)
    · replace h := it_t h c_166
      refine wx_iconst (v := 0) dX12_test_173 (by decide) ?_
      refine wx_goto (tgt := 206) dX12_test_174 (by decide) ?_
      exact wx_sub (so_X12_test_206 h_X12_test hS hd hdr hcu hsu h g) px_0
    · replace h := it_f h c_166
      refine wx_iconst (v := 1) dX12_test_169 (by decide) ?_
      refine wx_goto (tgt := 206) dX12_test_170 (by decide) ?_
      exact wx_sub (so_X12_test_206 h_X12_test hS hd hdr hcu hsu h g) px_0
noncomputable def o_X12_test_44 (r_X12_test : px_M → Option (Int32 × px_M)) (M : px_M) (z0 : Int32) : Option (Int32 × px_M) :=
  nm ((M 73 80) - 1) fun v_52 =>
  nm (px_u M 73 80 v_52) fun M_52 =>
  ok (zb z0) <|
  some (z0, M_52)
theorem so_X12_test_44 {dr : Nat} {r_X12_test : px_M → Option (Int32 × px_M)} {z0 : Int32} {M : px_M} {L : px_L} {R : px_R} {e : (Int32 × px_M)} (h_X12_test : ∀ {d : Nat} {X : Nat × (Nat → Int32)} {sh : px_Sh} {M : px_M} {L : px_L} {R : px_R} {n : Nat} {e : Int32 × px_M}, SR sh R → dr ≤ d → r_X12_test M = some e → MX yX12_test cX12_test 4 (some .boolean) d 0 0 X [.ref 73] sh M L R n (px_pu (some (.int e.1)) sh e.2 L R n)) (hS : SR sh R) (hd : 36 ≤ d) (hdr : dr + 3 ≤ d) (hcu : cu ≤ mc) (hsu : su ≤ ms) (h : o_X12_test_44 r_X12_test M z0 = some e) (g : Post (some (.int (e.1))) sh (e.2) L R n) : WX RX12 cX12_test 4 (some .boolean) ("test", []) d mc ms X (px_QF Post mc ms) 44 [(0, .ref 73)] [.int z0] sh M L R n cu su := by
  unfold o_X12_test_44 at h
  refine wx_istore_n (lv' := [(1, _), (0, _)]) dX12_test_44 (by decide) rfl ?_
  refine wx_aload_n dX12_test_45 rfl ?_
  refine wx_dup dX12_test_46 rfl ?_
  refine wx_getI dX12_test_47 fl_X12_358 (sc_73 hS) rfl ?_
  refine wx_iconst (v := 1) dX12_test_50 (by decide) ?_
  refine wx_isub dX12_test_51 ?_
  refine wx_nami (fun v_52 q_52 => ?_)
  replace h := nm_at h q_52
  refine wx_putI dX12_test_52 fl_X12_358 (sc_73 hS) (Or.inl rfl) rfl ⟨rfl, rfl⟩ ?_
  refine wx_namM (fun M_52 q_52 => ?_)
  replace h := nm_at h q_52
  refine wx_iload_n dX12_test_55 rfl ?_
  obtain ⟨w_56, h⟩ := ok_some h
  refine wx_zret dX12_test_56 (zb_n w_56) hcu hsu ?_
  obtain rfl := Option.some.inj h
  exact g
noncomputable def o_X12_test (r_X12_test : px_M → Option (Int32 × px_M)) (M : px_M) : Option (Int32 × px_M) :=
  if (M 73 81) = 0 then
    bd1 (f_X12_wordHere M) fun e_10 =>
    bd1 (f_X12_word 14 15 20 0 0) fun e_21 =>
    if e_10.1 = e_21 then
      bd1 (f_X12_opens e_10.2 3) fun e_29 =>
      bd1 (r_X12_test e_29) fun e_33 =>
      if e_33.1 = 0 then
        o_X12_test_44 r_X12_test e_33.2 1
      else
        o_X12_test_44 r_X12_test e_33.2 0
    else
      bd1 (f_X12_byteAt e_10.2 (e_10.2 73 78)) fun e_62 =>
      if e_62 = 91 then
        bd1 (f_X12_opens e_10.2 1) fun e_72 =>
        bd1 (o_X12_ors r_X12_test e_72) fun e_76 =>
        bd1 (f_X12_sign e_76.2 93) fun e_83 =>
        nm ((e_83 73 80) - 1) fun v_93 =>
        nm (px_u e_83 73 80 v_93) fun M_93 =>
        ok (zb e_76.1) <|
        some (e_76.1, M_93)
      else
        bd1 (f_X12_sum e_10.2) fun e_99 =>
        bd1 (f_X12_blanks e_99.2) fun e_104 =>
        bd1 (f_X12_byteAt e_104 (e_104 73 78)) fun e_112 =>
        if e_112 = 60 then
          o_X12_test_143 r_X12_test e_104 e_99.1 e_112
        else
          if e_112 = 62 then
            o_X12_test_143 r_X12_test e_104 e_99.1 e_112
          else
            if e_112 = 61 then
              o_X12_test_143 r_X12_test e_104 e_99.1 e_112
            else
              bd1 (f_X12_wrong e_104 1 (e_104 73 78)) fun e_140 =>
              o_X12_test_143 r_X12_test e_140 e_99.1 e_112
  else
    some (0, M)
theorem so_X12_test {dr : Nat} {r_X12_test : px_M → Option (Int32 × px_M)} {d : Nat} {X : Nat × (Nat → Int32)} {sh : px_Sh} {M : px_M} {L : px_L} {R : px_R} {n : Nat} {e : Int32 × px_M} (h_X12_test : ∀ {d : Nat} {X : Nat × (Nat → Int32)} {sh : px_Sh} {M : px_M} {L : px_L} {R : px_R} {n : Nat} {e : Int32 × px_M}, SR sh R → dr ≤ d → r_X12_test M = some e → MX yX12_test cX12_test 4 (some .boolean) d 0 0 X [.ref 73] sh M L R n (px_pu (some (.int e.1)) sh e.2 L R n)) (hS : SR sh R) (hd : 36 ≤ d) (hdr : dr + 3 ≤ d) (h : o_X12_test r_X12_test M = some e) : MX yX12_test cX12_test 4 (some .boolean) d 0 0 X [.ref 73] sh M L R n (px_pu (some (.int e.1)) sh e.2 L R n) := by
  refine MX.of (by decide +kernel) (by exact Nat.le_of_ble_eq_true rfl) ?_
  have hcu : 0 ≤ 0 := Nat.zero_le _
  have hsu : 0 ≤ 0 := Nat.zero_le _
  have g : px_pu (some (.int e.1)) sh e.2 L R n (some (.int e.1)) sh e.2 L R n := ⟨rfl, rfl, rfl, rfl, rfl, rfl⟩
  unfold o_X12_test at h
  refine wx_aload_n dX12_test_0 rfl ?_
  refine wx_getI dX12_test_1 fl_X12_339 (sc_73 hS) rfl ?_
  refine wx_if_eq (tgt := 9) dX12_test_4 (by decide) (fun c_4 => ?_) (fun c_4 => ?_)
  · replace h := it_t h c_4
    refine wx_aload_n dX12_test_9 rfl ?_
    obtain ⟨e_10, k_10, h⟩ := bd1_some h
    refine wx_cVi dX12_test_10 ml_X12_361 my_X12_wordHere iv_X12_wordHere (sc_73 hS) (by decide) (s_X12_wordHere (d := d - 1) hS (by omega) k_10) rfl (by omega) (by exact Nat.le_of_ble_eq_true rfl) hcu hsu ?_
    refine wx_bipush (v := 14) dX12_test_13 (by decide) ?_
    refine wx_bipush (v := 15) dX12_test_15 (by decide) ?_
    refine wx_bipush (v := 20) dX12_test_17 (by decide) ?_
    refine wx_iconst (v := 0) dX12_test_19 (by decide) ?_
    refine wx_iconst (v := 0) dX12_test_20 (by decide) ?_
    obtain ⟨e_21, k_21, h⟩ := bd1_some h
    refine wx_cSi dX12_test_21 ml_X12_364 my_X12_word sv_X12_word (s_X12_word (d := d - 1) hS (by omega) k_21) rfl (by omega) (by exact Nat.le_of_ble_eq_true rfl) hcu hsu ?_
    refine wx_icmp_ne (tgt := 57) dX12_test_24 (by decide) (fun c_24 => ?_) (fun c_24 => ?_)
    · replace h := it_f h c_24
      refine wx_aload_n dX12_test_57 rfl ?_
      refine wx_aload_n dX12_test_58 rfl ?_
      refine wx_getI dX12_test_59 fl_X12_333 (sc_73 hS) rfl ?_
      obtain ⟨e_62, k_62, h⟩ := bd1_some h
      refine wx_cVi dX12_test_62 ml_X12_336 my_X12_byteAt iv_X12_byteAt (sc_73 hS) (by decide) (s_X12_byteAt (d := d - 1) hS (by omega) k_62) rfl (by omega) (by exact Nat.le_of_ble_eq_true rfl) hcu hsu ?_
      refine wx_bipush (v := 91) dX12_test_65 (by decide) ?_
      refine wx_icmp_ne (tgt := 98) dX12_test_67 (by decide) (fun c_67 => ?_) (fun c_67 => ?_)
      · replace h := it_f h c_67
        refine wx_aload_n dX12_test_98 rfl ?_
        obtain ⟨e_99, k_99, h⟩ := bd1_some h
        refine wx_cVi dX12_test_99 ml_X12_384 my_X12_sum iv_X12_sum (sc_73 hS) (by decide) (s_X12_sum (d := d - 1) hS (by omega) k_99) rfl (by omega) (by exact Nat.le_of_ble_eq_true rfl) hcu hsu ?_
        refine wx_istore_n (lv' := [(1, _), (0, _)]) dX12_test_102 (by decide) rfl ?_
        refine wx_aload_n dX12_test_103 rfl ?_
        obtain ⟨e_104, k_104, h⟩ := bd1_some h
        refine wx_cVv dX12_test_104 ml_X12_345 my_X12_blanks iv_X12_blanks (sc_73 hS) (by decide) (s_X12_blanks (d := d - 1) hS (by omega) k_104) rfl (by omega) (by exact Nat.le_of_ble_eq_true rfl) hcu hsu ?_
        refine wx_aload_n dX12_test_107 rfl ?_
        refine wx_aload_n dX12_test_108 rfl ?_
        refine wx_getI dX12_test_109 fl_X12_333 (sc_73 hS) rfl ?_
        obtain ⟨e_112, k_112, h⟩ := bd1_some h
        refine wx_cVi dX12_test_112 ml_X12_336 my_X12_byteAt iv_X12_byteAt (sc_73 hS) (by decide) (s_X12_byteAt (d := d - 1) hS (by omega) k_112) rfl (by omega) (by exact Nat.le_of_ble_eq_true rfl) hcu hsu ?_
        refine wx_istore_n (lv' := [(2, _), (1, _), (0, _)]) dX12_test_115 (by decide) rfl ?_
        refine wx_iload_n dX12_test_116 rfl ?_
        refine wx_bipush (v := 60) dX12_test_117 (by decide) ?_
        refine wx_icmp_eq (tgt := 143) dX12_test_119 (by decide) (fun c_119 => ?_) (fun c_119 => ?_)
        · replace h := it_t h c_119
          exact wx_sub (so_X12_test_143 h_X12_test hS hd hdr hcu hsu h g) (px_s rfl (px_s rfl (px_s rfl px_0)))
        · replace h := it_f h c_119
          refine wx_iload_n dX12_test_122 rfl ?_
          refine wx_bipush (v := 62) dX12_test_123 (by decide) ?_
          refine wx_icmp_eq (tgt := 143) dX12_test_125 (by decide) (fun c_125 => ?_) (fun c_125 => ?_)
          · replace h := it_t h c_125
            exact wx_sub (so_X12_test_143 h_X12_test hS hd hdr hcu hsu h g) (px_s rfl (px_s rfl (px_s rfl px_0)))
          · replace h := it_f h c_125
            refine wx_iload_n dX12_test_128 rfl ?_
            refine wx_bipush (v := 61) dX12_test_129 (by decide) ?_
            refine wx_icmp_eq (tgt := 143) dX12_test_131 (by decide) (fun c_131 => ?_) (fun c_131 => ?_)
            · replace h := it_t h c_131
              exact wx_sub (so_X12_test_143 h_X12_test hS hd hdr hcu hsu h g) (px_s rfl (px_s rfl (px_s rfl px_0)))
            · replace h := it_f h c_131
              refine wx_aload_n dX12_test_134 rfl ?_
              refine wx_iconst (v := 1) dX12_test_135 (by decide) ?_
              refine wx_aload_n dX12_test_136 rfl ?_
              refine wx_getI dX12_test_137 fl_X12_333 (sc_73 hS) rfl ?_
              obtain ⟨e_140, k_140, h⟩ := bd1_some h
              refine wx_cVv dX12_test_140 ml_X12_351 my_X12_wrong iv_X12_wrong (sc_73 hS) (by decide) (s_X12_wrong (d := d - 1) hS (by omega) k_140) rfl (by omega) (by exact Nat.le_of_ble_eq_true rfl) hcu hsu ?_
              exact wx_sub (so_X12_test_143 h_X12_test hS hd hdr hcu hsu h g) (px_s rfl (px_s rfl (px_s rfl px_0)))
      · replace h := it_t h c_67
        refine wx_aload_n dX12_test_70 rfl ?_
        refine wx_iconst (v := 1) dX12_test_71 (by decide) ?_
        obtain ⟨e_72, k_72, h⟩ := bd1_some h
        refine wx_cVv dX12_test_72 ml_X12_380 my_X12_opens iv_X12_opens (sc_73 hS) (by decide) (s_X12_opens (d := d - 1) hS (by omega) k_72) rfl (by omega) (by exact Nat.le_of_ble_eq_true rfl) hcu hsu ?_
        refine wx_aload_n dX12_test_75 rfl ?_
        obtain ⟨e_76, k_76, h⟩ := bd1_some h
        refine wx_cVi dX12_test_76 ml_X12_400 my_X12_ors iv_X12_ors (sc_73 hS) (by decide) (so_X12_ors (d := d - 1) h_X12_test hS (by omega) (by omega) k_76) rfl (by omega) (by exact Nat.le_of_ble_eq_true rfl) hcu hsu ?_
        refine wx_istore_n (lv' := [(1, _), (0, _)]) dX12_test_79 (by decide) rfl ?_
        refine wx_aload_n dX12_test_80 rfl ?_
        refine wx_bipush (v := 93) dX12_test_81 (by decide) ?_
        obtain ⟨e_83, k_83, h⟩ := bd1_some h
        refine wx_cVv dX12_test_83 ml_X12_387 my_X12_sign iv_X12_sign (sc_73 hS) (by decide) (s_X12_sign (d := d - 1) hS (by omega) k_83) rfl (by omega) (by exact Nat.le_of_ble_eq_true rfl) hcu hsu ?_
        refine wx_aload_n dX12_test_86 rfl ?_
        refine wx_dup dX12_test_87 rfl ?_
        refine wx_getI dX12_test_88 fl_X12_358 (sc_73 hS) rfl ?_
        refine wx_iconst (v := 1) dX12_test_91 (by decide) ?_
        refine wx_isub dX12_test_92 ?_
        refine wx_nami (fun v_93 q_93 => ?_)
        replace h := nm_at h q_93
        refine wx_putI dX12_test_93 fl_X12_358 (sc_73 hS) (Or.inl rfl) rfl ⟨rfl, rfl⟩ ?_
        refine wx_namM (fun M_93 q_93 => ?_)
        replace h := nm_at h q_93
        refine wx_iload_n dX12_test_96 rfl ?_
        obtain ⟨w_97, h⟩ := ok_some h
        refine wx_zret dX12_test_97 (zb_n w_97) hcu hsu ?_
        obtain rfl := Option.some.inj h
        exact g
    · replace h := it_t h c_24
      refine wx_aload_n dX12_test_27 rfl ?_
      refine wx_iconst (v := 3) dX12_test_28 (by decide) ?_
      obtain ⟨e_29, k_29, h⟩ := bd1_some h
      refine wx_cVv dX12_test_29 ml_X12_380 my_X12_opens iv_X12_opens (sc_73 hS) (by decide) (s_X12_opens (d := d - 1) hS (by omega) k_29) rfl (by omega) (by exact Nat.le_of_ble_eq_true rfl) hcu hsu ?_
      refine wx_aload_n dX12_test_32 rfl ?_
      obtain ⟨e_33, k_33, h⟩ := bd1_some h
      refine wx_cVi dX12_test_33 ml_X12_396 my_X12_test iv_X12_test (sc_73 hS) (by decide) (h_X12_test (d := d - 1) hS (by omega) k_33) rfl (by omega) (by exact Nat.le_of_ble_eq_true rfl) hcu hsu ?_
      refine wx_if_ne (tgt := 43) dX12_test_36 (by decide) (fun c_36 => ?_) (fun c_36 => ?_)
      · replace h := it_f h c_36
        refine wx_iconst (v := 0) dX12_test_43 (by decide) ?_
        exact wx_sub (so_X12_test_44 h_X12_test hS hd hdr hcu hsu h g) (px_s rfl px_0)
      · replace h := it_t h c_36
        refine wx_iconst (v := 1) dX12_test_39 (by decide) ?_
        refine wx_goto (tgt := 44) dX12_test_40 (by decide) ?_
        exact wx_sub (so_X12_test_44 h_X12_test hS hd hdr hcu hsu h g) (px_s rfl px_0)
  · replace h := it_f h c_4
    refine wx_iconst (v := 0) dX12_test_7 (by decide) ?_
    refine wx_zret dX12_test_8 rfl hcu hsu ?_
    obtain rfl := Option.some.inj h
    exact g
noncomputable def k_X12_test : Nat → px_M → Option (Int32 × px_M)
  | 0 => fun _ => none
  | k + 1 => fun M => o_X12_test (k_X12_test k) M
theorem sk_X12_test : ∀ (k : Nat) {d : Nat} {X : Nat × (Nat → Int32)} {sh : px_Sh} {M : px_M} {L : px_L} {R : px_R} {n : Nat} {e : Int32 × px_M}, SR sh R → 36 + 3 * k ≤ d → k_X12_test k M = some e → MX yX12_test cX12_test 4 (some .boolean) d 0 0 X [.ref 73] sh M L R n (px_pu (some (.int e.1)) sh e.2 L R n)
  | 0, _, _, _, _, _, _, _, _, _, _, h => by cases h
  | k + 1, d, X, sh, M, L, R, n, e, hS, hd, h => so_X12_test (dr := 36 + 3 * k) (r_X12_test := k_X12_test k) (fun hS hd h => sk_X12_test k hS hd h) hS (by omega) (by omega) h
noncomputable def f_X12_test (M : px_M) : Option (Int32 × px_M) := k_X12_test 9 M
theorem s_X12_test {d : Nat} {X : Nat × (Nat → Int32)} {sh : px_Sh} {M : px_M} {L : px_L} {R : px_R} {n : Nat} {e : Int32 × px_M} (hS : SR sh R) (hd : 63 ≤ d) (h : f_X12_test M = some e) : MX yX12_test cX12_test 4 (some .boolean) d 0 0 X [.ref 73] sh M L R n (px_pu (some (.int e.1)) sh e.2 L R n) := sk_X12_test 9 hS (by omega) h
noncomputable def f_X12_ands (M : px_M) : Option (Int32 × px_M) := o_X12_ands f_X12_test M
theorem s_X12_ands {d : Nat} {X : Nat × (Nat → Int32)} {sh : px_Sh} {M : px_M} {L : px_L} {R : px_R} {n : Nat} {e : Int32 × px_M} (hS : SR sh R) (hd : 64 ≤ d) (h : f_X12_ands M = some e) : MX yX12_ands cX12_ands 3 (some .boolean) d 0 0 X [.ref 73] sh M L R n (px_pu (some (.int e.1)) sh e.2 L R n) := so_X12_ands (dr := 63) (r_X12_test := f_X12_test) (fun hS hd h => s_X12_test hS hd h) hS (by omega) (by omega) h
noncomputable def f_X12_ors (M : px_M) : Option (Int32 × px_M) := o_X12_ors f_X12_test M
theorem s_X12_ors {d : Nat} {X : Nat × (Nat → Int32)} {sh : px_Sh} {M : px_M} {L : px_L} {R : px_R} {n : Nat} {e : Int32 × px_M} (hS : SR sh R) (hd : 65 ≤ d) (h : f_X12_ors M = some e) : MX yX12_ors cX12_ors 3 (some .boolean) d 0 0 X [.ref 73] sh M L R n (px_pu (some (.int e.1)) sh e.2 L R n) := so_X12_ors (dr := 63) (r_X12_test := f_X12_test) (fun hS hd h => s_X12_test hS hd h) hS (by omega) (by omega) h
noncomputable def f_X12_readAll_251 (M : px_M) : Option ((px_M) ⊕ (px_M)) :=
  nm ((M 73 85) + 1) fun v_258 =>
  nm (px_u M 73 85 v_258) fun M_258 =>
  bd1 (f_X12_blanks M_258) fun e_262 =>
  some (.inl e_262)
theorem s_X12_readAll_251 {M : px_M} {L : px_L} {R : px_R} {e : ((px_M) ⊕ (px_M))} (hS : SR sh R) (hd : 66 ≤ d) (hcu : cu ≤ mc) (hsu : su ≤ ms) (h : f_X12_readAll_251 M = some e) (g : (sE (fun a => WX RX12 cX12_readAll 4 none ("readAll", []) d mc ms X (px_QF Post mc ms) 39 [(0, .ref 73)] [] sh a L R n cu su) (fun t => WX RX12 cX12_readAll 4 none ("readAll", []) d mc ms X (px_QF Post mc ms) 268 [] [] sh t L R n cu su)) e) : WX RX12 cX12_readAll 4 none ("readAll", []) d mc ms X (px_QF Post mc ms) 251 [(0, .ref 73)] [] sh M L R n cu su := by
  unfold f_X12_readAll_251 at h
  refine wx_aload_n dX12_readAll_251 rfl ?_
  refine wx_dup dX12_readAll_252 rfl ?_
  refine wx_getI dX12_readAll_253 fl_X12_406 (sc_73 hS) rfl ?_
  refine wx_iconst (v := 1) dX12_readAll_256 (by decide) ?_
  refine wx_iadd dX12_readAll_257 ?_
  refine wx_nami (fun v_258 q_258 => ?_)
  replace h := nm_at h q_258
  refine wx_putI dX12_readAll_258 fl_X12_406 (sc_73 hS) (Or.inl rfl) rfl ⟨rfl, rfl⟩ ?_
  refine wx_namM (fun M_258 q_258 => ?_)
  replace h := nm_at h q_258
  refine wx_aload_n dX12_readAll_261 rfl ?_
  obtain ⟨e_262, k_262, h⟩ := bd1_some h
  refine wx_cVv dX12_readAll_262 ml_X12_345 my_X12_blanks iv_X12_blanks (sc_73 hS) (by decide) (s_X12_blanks (d := d - 1) hS (by omega) k_262) rfl (by omega) (by exact Nat.le_of_ble_eq_true rfl) hcu hsu ?_
  refine wx_goto (tgt := 39) dX12_readAll_265 (by decide) ?_
  obtain rfl := Option.some.inj h
  replace g := sE_l g
  exact wx_sub g (px_s rfl px_0)
noncomputable def f_X12_readAll_219 (M : px_M) (x2 : Int32) (x3 : Int32) : Option ((px_M) ⊕ (px_M)) :=
  if (M 73 81) = 0 then
    if x3 = 0 then
      f_X12_readAll_251 M
    else
      if (M 73 83) = (-1) then
        nm (M 73 85) fun v_243 =>
        nm (px_u M 73 83 v_243) fun M_243 =>
        nm (px_u M_243 73 84 x2) fun M_248 =>
        f_X12_readAll_251 M_248
      else
        f_X12_readAll_251 M
  else
    f_X12_readAll_251 M
theorem s_X12_readAll_219 {x2 : Int32} {x3 : Int32} {M : px_M} {L : px_L} {R : px_R} {e : ((px_M) ⊕ (px_M))} (hS : SR sh R) (hd : 66 ≤ d) (hcu : cu ≤ mc) (hsu : su ≤ ms) (h : f_X12_readAll_219 M x2 x3 = some e) (g : (sE (fun a => WX RX12 cX12_readAll 4 none ("readAll", []) d mc ms X (px_QF Post mc ms) 39 [(0, .ref 73)] [] sh a L R n cu su) (fun t => WX RX12 cX12_readAll 4 none ("readAll", []) d mc ms X (px_QF Post mc ms) 268 [] [] sh t L R n cu su)) e) : WX RX12 cX12_readAll 4 none ("readAll", []) d mc ms X (px_QF Post mc ms) 219 [(0, .ref 73), (2, .int x2), (3, .int x3)] [] sh M L R n cu su := by
  unfold f_X12_readAll_219 at h
  refine wx_aload_n dX12_readAll_219 rfl ?_
  refine wx_getI dX12_readAll_220 fl_X12_339 (sc_73 hS) rfl ?_
  refine wx_if_ne (tgt := 251) dX12_readAll_223 (by decide) (fun c_223 => ?_) (fun c_223 => ?_)
  · replace h := it_f h c_223
    exact wx_sub (s_X12_readAll_251 hS hd hcu hsu h g) (px_s rfl px_0)
  · replace h := it_t h c_223
    refine wx_iload_n dX12_readAll_226 rfl ?_
    refine wx_if_eq (tgt := 251) dX12_readAll_227 (by decide) (fun c_227 => ?_) (fun c_227 => ?_)
    · replace h := it_t h c_227
      exact wx_sub (s_X12_readAll_251 hS hd hcu hsu h g) (px_s rfl px_0)
    · replace h := it_f h c_227
      refine wx_aload_n dX12_readAll_230 rfl ?_
      refine wx_getI dX12_readAll_231 fl_X12_409 (sc_73 hS) rfl ?_
      refine wx_iconst (v := (-1)) dX12_readAll_234 (by decide) ?_
      refine wx_icmp_ne (tgt := 251) dX12_readAll_235 (by decide) (fun c_235 => ?_) (fun c_235 => ?_)
      · replace h := it_f h c_235
        exact wx_sub (s_X12_readAll_251 hS hd hcu hsu h g) (px_s rfl px_0)
      · replace h := it_t h c_235
        refine wx_aload_n dX12_readAll_238 rfl ?_
        refine wx_aload_n dX12_readAll_239 rfl ?_
        refine wx_getI dX12_readAll_240 fl_X12_406 (sc_73 hS) rfl ?_
        refine wx_nami (fun v_243 q_243 => ?_)
        replace h := nm_at h q_243
        refine wx_putI dX12_readAll_243 fl_X12_409 (sc_73 hS) (Or.inl rfl) rfl ⟨rfl, rfl⟩ ?_
        refine wx_namM (fun M_243 q_243 => ?_)
        replace h := nm_at h q_243
        refine wx_aload_n dX12_readAll_246 rfl ?_
        refine wx_iload_n dX12_readAll_247 rfl ?_
        refine wx_putI dX12_readAll_248 fl_X12_412 (sc_73 hS) (Or.inl rfl) rfl ⟨rfl, rfl⟩ ?_
        refine wx_namM (fun M_248 q_248 => ?_)
        replace h := nm_at h q_248
        exact wx_sub (s_X12_readAll_251 hS hd hcu hsu h g) (px_s rfl px_0)
noncomputable def f_X12_readAll_201 (M : px_M) (x2 : Int32) : Option ((px_M) ⊕ (px_M)) :=
  bd1 (f_X12_ors M) fun e_202 =>
  if (e_202.2 73 81) = 0 then
    bd1 (f_X12_sign e_202.2 59) fun e_216 =>
    f_X12_readAll_219 e_216 x2 e_202.1
  else
    f_X12_readAll_219 e_202.2 x2 e_202.1
theorem s_X12_readAll_201 {x2 : Int32} {M : px_M} {L : px_L} {R : px_R} {e : ((px_M) ⊕ (px_M))} (hS : SR sh R) (hd : 66 ≤ d) (hcu : cu ≤ mc) (hsu : su ≤ ms) (h : f_X12_readAll_201 M x2 = some e) (g : (sE (fun a => WX RX12 cX12_readAll 4 none ("readAll", []) d mc ms X (px_QF Post mc ms) 39 [(0, .ref 73)] [] sh a L R n cu su) (fun t => WX RX12 cX12_readAll 4 none ("readAll", []) d mc ms X (px_QF Post mc ms) 268 [] [] sh t L R n cu su)) e) : WX RX12 cX12_readAll 4 none ("readAll", []) d mc ms X (px_QF Post mc ms) 201 [(0, .ref 73), (2, .int x2)] [] sh M L R n cu su := by
  unfold f_X12_readAll_201 at h
  refine wx_aload_n dX12_readAll_201 rfl ?_
  obtain ⟨e_202, k_202, h⟩ := bd1_some h
  refine wx_cVi dX12_readAll_202 ml_X12_400 my_X12_ors iv_X12_ors (sc_73 hS) (by decide) (s_X12_ors (d := d - 1) hS (by omega) k_202) rfl (by omega) (by exact Nat.le_of_ble_eq_true rfl) hcu hsu ?_
  refine wx_istore_n (lv' := [(3, _), (0, _), (2, _)]) dX12_readAll_205 (by decide) rfl ?_
  refine wx_aload_n dX12_readAll_206 rfl ?_
  refine wx_getI dX12_readAll_207 fl_X12_339 (sc_73 hS) rfl ?_
  refine wx_if_ne (tgt := 219) dX12_readAll_210 (by decide) (fun c_210 => ?_) (fun c_210 => ?_)
  · replace h := it_f h c_210
    exact wx_sub (s_X12_readAll_219 hS hd hcu hsu h g) (px_s rfl (px_s rfl (px_s rfl px_0)))
  · replace h := it_t h c_210
    refine wx_aload_n dX12_readAll_213 rfl ?_
    refine wx_bipush (v := 59) dX12_readAll_214 (by decide) ?_
    obtain ⟨e_216, k_216, h⟩ := bd1_some h
    refine wx_cVv dX12_readAll_216 ml_X12_387 my_X12_sign iv_X12_sign (sc_73 hS) (by decide) (s_X12_sign (d := d - 1) hS (by omega) k_216) rfl (by omega) (by exact Nat.le_of_ble_eq_true rfl) hcu hsu ?_
    exact wx_sub (s_X12_readAll_219 hS hd hcu hsu h g) (px_s rfl (px_s rfl (px_s rfl px_0)))
noncomputable def f_X12_readAll_161 (M : px_M) (x2 : Int32) : Option ((px_M) ⊕ (px_M)) :=
  if (M 73 81) = 0 then
    bd1 (f_X12_wordHere M) fun e_169 =>
    bd1 (f_X12_word 9 6 0 0 0) fun e_179 =>
    if e_169.1 = e_179 then
      bd1 (f_X12_skipWord e_169.2) fun e_186 =>
      f_X12_readAll_201 e_186 x2
    else
      bd1 (f_X12_wrong e_169.2 1 (e_169.2 73 78)) fun e_198 =>
      f_X12_readAll_201 e_198 x2
  else
    f_X12_readAll_201 M x2
theorem s_X12_readAll_161 {x2 : Int32} {M : px_M} {L : px_L} {R : px_R} {e : ((px_M) ⊕ (px_M))} (hS : SR sh R) (hd : 66 ≤ d) (hcu : cu ≤ mc) (hsu : su ≤ ms) (h : f_X12_readAll_161 M x2 = some e) (g : (sE (fun a => WX RX12 cX12_readAll 4 none ("readAll", []) d mc ms X (px_QF Post mc ms) 39 [(0, .ref 73)] [] sh a L R n cu su) (fun t => WX RX12 cX12_readAll 4 none ("readAll", []) d mc ms X (px_QF Post mc ms) 268 [] [] sh t L R n cu su)) e) : WX RX12 cX12_readAll 4 none ("readAll", []) d mc ms X (px_QF Post mc ms) 161 [(0, .ref 73), (2, .int x2)] [] sh M L R n cu su := by
  unfold f_X12_readAll_161 at h
  refine wx_aload_n dX12_readAll_161 rfl ?_
  refine wx_getI dX12_readAll_162 fl_X12_339 (sc_73 hS) rfl ?_
  refine wx_if_ne (tgt := 201) dX12_readAll_165 (by decide) (fun c_165 => ?_) (fun c_165 => ?_)
  · replace h := it_f h c_165
    exact wx_sub (s_X12_readAll_201 hS hd hcu hsu h g) (px_s rfl (px_s rfl px_0))
  · replace h := it_t h c_165
    refine wx_aload_n dX12_readAll_168 rfl ?_
    obtain ⟨e_169, k_169, h⟩ := bd1_some h
    refine wx_cVi dX12_readAll_169 ml_X12_361 my_X12_wordHere iv_X12_wordHere (sc_73 hS) (by decide) (s_X12_wordHere (d := d - 1) hS (by omega) k_169) rfl (by omega) (by exact Nat.le_of_ble_eq_true rfl) hcu hsu ?_
    refine wx_bipush (v := 9) dX12_readAll_172 (by decide) ?_
    refine wx_bipush (v := 6) dX12_readAll_174 (by decide) ?_
    refine wx_iconst (v := 0) dX12_readAll_176 (by decide) ?_
    refine wx_iconst (v := 0) dX12_readAll_177 (by decide) ?_
    refine wx_iconst (v := 0) dX12_readAll_178 (by decide) ?_
    obtain ⟨e_179, k_179, h⟩ := bd1_some h
    refine wx_cSi dX12_readAll_179 ml_X12_364 my_X12_word sv_X12_word (s_X12_word (d := d - 1) hS (by omega) k_179) rfl (by omega) (by exact Nat.le_of_ble_eq_true rfl) hcu hsu ?_
    refine wx_icmp_ne (tgt := 192) dX12_readAll_182 (by decide) (fun c_182 => ?_) (fun c_182 => ?_)
    · replace h := it_f h c_182
      refine wx_aload_n dX12_readAll_192 rfl ?_
      refine wx_iconst (v := 1) dX12_readAll_193 (by decide) ?_
      refine wx_aload_n dX12_readAll_194 rfl ?_
      refine wx_getI dX12_readAll_195 fl_X12_333 (sc_73 hS) rfl ?_
      obtain ⟨e_198, k_198, h⟩ := bd1_some h
      refine wx_cVv dX12_readAll_198 ml_X12_351 my_X12_wrong iv_X12_wrong (sc_73 hS) (by decide) (s_X12_wrong (d := d - 1) hS (by omega) k_198) rfl (by omega) (by exact Nat.le_of_ble_eq_true rfl) hcu hsu ?_
      exact wx_sub (s_X12_readAll_201 hS hd hcu hsu h g) (px_s rfl (px_s rfl px_0))
    · replace h := it_t h c_182
      refine wx_aload_n dX12_readAll_185 rfl ?_
      obtain ⟨e_186, k_186, h⟩ := bd1_some h
      refine wx_cVv dX12_readAll_186 ml_X12_374 my_X12_skipWord iv_X12_skipWord (sc_73 hS) (by decide) (s_X12_skipWord (d := d - 1) hS (by omega) k_186) rfl (by omega) (by exact Nat.le_of_ble_eq_true rfl) hcu hsu ?_
      refine wx_goto (tgt := 201) dX12_readAll_189 (by decide) ?_
      exact wx_sub (s_X12_readAll_201 hS hd hcu hsu h g) (px_s rfl (px_s rfl px_0))
noncomputable def f_X12_readAll_118 (M : px_M) (z0 : Int32) : Option ((px_M) ⊕ (px_M)) :=
  if z0 = (-1) then
    bd1 (f_X12_wrong M 1 (M 73 78)) fun e_130 =>
    f_X12_readAll_161 e_130 z0
  else
    if (M 73 85) = 16 then
      bd1 (f_X12_wrong M 3 (M 73 78)) fun e_151 =>
      f_X12_readAll_161 e_151 z0
    else
      bd1 (f_X12_skipWord M) fun e_158 =>
      f_X12_readAll_161 e_158 z0
theorem s_X12_readAll_118 {z0 : Int32} {M : px_M} {L : px_L} {R : px_R} {e : ((px_M) ⊕ (px_M))} (hS : SR sh R) (hd : 66 ≤ d) (hcu : cu ≤ mc) (hsu : su ≤ ms) (h : f_X12_readAll_118 M z0 = some e) (g : (sE (fun a => WX RX12 cX12_readAll 4 none ("readAll", []) d mc ms X (px_QF Post mc ms) 39 [(0, .ref 73)] [] sh a L R n cu su) (fun t => WX RX12 cX12_readAll 4 none ("readAll", []) d mc ms X (px_QF Post mc ms) 268 [] [] sh t L R n cu su)) e) : WX RX12 cX12_readAll 4 none ("readAll", []) d mc ms X (px_QF Post mc ms) 118 [(0, .ref 73)] [.int z0] sh M L R n cu su := by
  unfold f_X12_readAll_118 at h
  refine wx_istore_n (lv' := [(2, _), (0, _)]) dX12_readAll_118 (by decide) rfl ?_
  refine wx_iload_n dX12_readAll_119 rfl ?_
  refine wx_iconst (v := (-1)) dX12_readAll_120 (by decide) ?_
  refine wx_icmp_ne (tgt := 136) dX12_readAll_121 (by decide) (fun c_121 => ?_) (fun c_121 => ?_)
  · replace h := it_f h c_121
    refine wx_aload_n dX12_readAll_136 rfl ?_
    refine wx_getI dX12_readAll_137 fl_X12_406 (sc_73 hS) rfl ?_
    refine wx_bipush (v := 16) dX12_readAll_140 (by decide) ?_
    refine wx_icmp_ne (tgt := 157) dX12_readAll_142 (by decide) (fun c_142 => ?_) (fun c_142 => ?_)
    · replace h := it_f h c_142
      refine wx_aload_n dX12_readAll_157 rfl ?_
      obtain ⟨e_158, k_158, h⟩ := bd1_some h
      refine wx_cVv dX12_readAll_158 ml_X12_374 my_X12_skipWord iv_X12_skipWord (sc_73 hS) (by decide) (s_X12_skipWord (d := d - 1) hS (by omega) k_158) rfl (by omega) (by exact Nat.le_of_ble_eq_true rfl) hcu hsu ?_
      exact wx_sub (s_X12_readAll_161 hS hd hcu hsu h g) (px_s rfl (px_s rfl px_0))
    · replace h := it_t h c_142
      refine wx_aload_n dX12_readAll_145 rfl ?_
      refine wx_iconst (v := 3) dX12_readAll_146 (by decide) ?_
      refine wx_aload_n dX12_readAll_147 rfl ?_
      refine wx_getI dX12_readAll_148 fl_X12_333 (sc_73 hS) rfl ?_
      obtain ⟨e_151, k_151, h⟩ := bd1_some h
      refine wx_cVv dX12_readAll_151 ml_X12_351 my_X12_wrong iv_X12_wrong (sc_73 hS) (by decide) (s_X12_wrong (d := d - 1) hS (by omega) k_151) rfl (by omega) (by exact Nat.le_of_ble_eq_true rfl) hcu hsu ?_
      refine wx_goto (tgt := 161) dX12_readAll_154 (by decide) ?_
      exact wx_sub (s_X12_readAll_161 hS hd hcu hsu h g) (px_s rfl (px_s rfl px_0))
  · replace h := it_t h c_121
    refine wx_aload_n dX12_readAll_124 rfl ?_
    refine wx_iconst (v := 1) dX12_readAll_125 (by decide) ?_
    refine wx_aload_n dX12_readAll_126 rfl ?_
    refine wx_getI dX12_readAll_127 fl_X12_333 (sc_73 hS) rfl ?_
    obtain ⟨e_130, k_130, h⟩ := bd1_some h
    refine wx_cVv dX12_readAll_130 ml_X12_351 my_X12_wrong iv_X12_wrong (sc_73 hS) (by decide) (s_X12_wrong (d := d - 1) hS (by omega) k_130) rfl (by omega) (by exact Nat.le_of_ble_eq_true rfl) hcu hsu ?_
    refine wx_goto (tgt := 161) dX12_readAll_133 (by decide) ?_
    exact wx_sub (s_X12_readAll_161 hS hd hcu hsu h g) (px_s rfl (px_s rfl px_0))
noncomputable def f_X12_readAll_39 (M : px_M) : Option ((px_M) ⊕ (px_M)) :=
  if (M 73 81) = 0 then
    if (M 73 79) ≤ (M 73 78) then
      some (.inr M)
    else
      bd1 (f_X12_wordHere M) fun e_58 =>
      bd1 (f_X12_word 9 14 0 0 0) fun e_70 =>
      if e_58.1 = e_70 then
        f_X12_readAll_118 e_58.2 0
      else
        bd1 (f_X12_word 11 5 5 16 0) fun e_88 =>
        if e_58.1 = e_88 then
          f_X12_readAll_118 e_58.2 1
        else
          bd1 (f_X12_word 15 21 20 0 0) fun e_107 =>
          if e_58.1 = e_107 then
            f_X12_readAll_118 e_58.2 2
          else
            f_X12_readAll_118 e_58.2 (-1)
  else
    some (.inr M)
theorem s_X12_readAll_39b {M : px_M} {L : px_L} {R : px_R} {e : ((px_M) ⊕ (px_M))} (hS : SR sh R) (hd : 66 ≤ d) (hcu : cu ≤ mc) (hsu : su ≤ ms) (h : f_X12_readAll_39 M = some e) (g : (sE (fun a => WX RX12 cX12_readAll 4 none ("readAll", []) d mc ms X (px_QF Post mc ms) 39 [(0, .ref 73)] [] sh a L R n cu su) (fun t => WX RX12 cX12_readAll 4 none ("readAll", []) d mc ms X (px_QF Post mc ms) 268 [] [] sh t L R n cu su)) e) : WX RX12 cX12_readAll 4 none ("readAll", []) d mc ms X (px_QF Post mc ms) 39 [(0, .ref 73)] [] sh M L R n cu su := by
  unfold f_X12_readAll_39 at h
  refine wx_aload_n dX12_readAll_39 rfl ?_
  refine wx_getI dX12_readAll_40 fl_X12_339 (sc_73 hS) rfl ?_
  refine wx_if_ne (tgt := 268) dX12_readAll_43 (by decide) (fun c_43 => ?_) (fun c_43 => ?_)
  · replace h := it_f h c_43
    obtain rfl := Option.some.inj h
    replace g := sE_r g
    exact wx_sub g px_0
  · replace h := it_t h c_43
    refine wx_aload_n dX12_readAll_46 rfl ?_
    refine wx_getI dX12_readAll_47 fl_X12_333 (sc_73 hS) rfl ?_
    refine wx_aload_n dX12_readAll_50 rfl ?_
    refine wx_getI dX12_readAll_51 fl_X12_327 (sc_73 hS) rfl ?_
    refine wx_icmp_ge (tgt := 268) dX12_readAll_54 (by decide) (fun c_54 => ?_) (fun c_54 => ?_)
    · replace h := it_t h c_54
      obtain rfl := Option.some.inj h
      replace g := sE_r g
      exact wx_sub g px_0
    · replace h := it_f h c_54
      refine wx_aload_n dX12_readAll_57 rfl ?_
      obtain ⟨e_58, k_58, h⟩ := bd1_some h
      refine wx_cVi dX12_readAll_58 ml_X12_361 my_X12_wordHere iv_X12_wordHere (sc_73 hS) (by decide) (s_X12_wordHere (d := d - 1) hS (by omega) k_58) rfl (by omega) (by exact Nat.le_of_ble_eq_true rfl) hcu hsu ?_
      refine wx_istore_n (lv' := [(1, _), (0, _)]) dX12_readAll_61 (by decide) rfl ?_
      refine wx_iload_n dX12_readAll_62 rfl ?_
      refine wx_bipush (v := 9) dX12_readAll_63 (by decide) ?_
      refine wx_bipush (v := 14) dX12_readAll_65 (by decide) ?_
      refine wx_iconst (v := 0) dX12_readAll_67 (by decide) ?_
      refine wx_iconst (v := 0) dX12_readAll_68 (by decide) ?_
      refine wx_iconst (v := 0) dX12_readAll_69 (by decide) ?_
      obtain ⟨e_70, k_70, h⟩ := bd1_some h
      refine wx_cSi dX12_readAll_70 ml_X12_364 my_X12_word sv_X12_word (s_X12_word (d := d - 1) hS (by omega) k_70) rfl (by omega) (by exact Nat.le_of_ble_eq_true rfl) hcu hsu ?_
      refine wx_icmp_ne (tgt := 80) dX12_readAll_73 (by decide) (fun c_73 => ?_) (fun c_73 => ?_)
      · replace h := it_f h c_73
        refine wx_iload_n dX12_readAll_80 rfl ?_
        refine wx_bipush (v := 11) dX12_readAll_81 (by decide) ?_
        refine wx_iconst (v := 5) dX12_readAll_83 (by decide) ?_
        refine wx_iconst (v := 5) dX12_readAll_84 (by decide) ?_
        refine wx_bipush (v := 16) dX12_readAll_85 (by decide) ?_
        refine wx_iconst (v := 0) dX12_readAll_87 (by decide) ?_
        obtain ⟨e_88, k_88, h⟩ := bd1_some h
        refine wx_cSi dX12_readAll_88 ml_X12_364 my_X12_word sv_X12_word (s_X12_word (d := d - 1) hS (by omega) k_88) rfl (by omega) (by exact Nat.le_of_ble_eq_true rfl) hcu hsu ?_
        refine wx_icmp_ne (tgt := 98) dX12_readAll_91 (by decide) (fun c_91 => ?_) (fun c_91 => ?_)
        · replace h := it_f h c_91
          refine wx_iload_n dX12_readAll_98 rfl ?_
          refine wx_bipush (v := 15) dX12_readAll_99 (by decide) ?_
          refine wx_bipush (v := 21) dX12_readAll_101 (by decide) ?_
          refine wx_bipush (v := 20) dX12_readAll_103 (by decide) ?_
          refine wx_iconst (v := 0) dX12_readAll_105 (by decide) ?_
          refine wx_iconst (v := 0) dX12_readAll_106 (by decide) ?_
          obtain ⟨e_107, k_107, h⟩ := bd1_some h
          refine wx_cSi dX12_readAll_107 ml_X12_364 my_X12_word sv_X12_word (s_X12_word (d := d - 1) hS (by omega) k_107) rfl (by omega) (by exact Nat.le_of_ble_eq_true rfl) hcu hsu ?_
          refine wx_icmp_ne (tgt := 117) dX12_readAll_110 (by decide) (fun c_110 => ?_) (fun c_110 => ?_)
          · replace h := it_f h c_110
            refine wx_iconst (v := (-1)) dX12_readAll_117 (by decide) ?_
            exact wx_sub (s_X12_readAll_118 hS hd hcu hsu h g) (px_s rfl px_0)
          · replace h := it_t h c_110
            refine wx_iconst (v := 2) dX12_readAll_113 (by decide) ?_
            refine wx_goto (tgt := 118) dX12_readAll_114 (by decide) ?_
            exact wx_sub (s_X12_readAll_118 hS hd hcu hsu h g) (px_s rfl px_0)
        · replace h := it_t h c_91
          refine wx_iconst (v := 1) dX12_readAll_94 (by decide) ?_
          refine wx_goto (tgt := 118) dX12_readAll_95 (by decide) ?_
          exact wx_sub (s_X12_readAll_118 hS hd hcu hsu h g) (px_s rfl px_0)
      · replace h := it_t h c_73
        refine wx_iconst (v := 0) dX12_readAll_76 (by decide) ?_
        refine wx_goto (tgt := 118) dX12_readAll_77 (by decide) ?_
        exact wx_sub (s_X12_readAll_118 hS hd hcu hsu h g) (px_s rfl px_0)
theorem s_X12_readAll_39 {M : px_M} {L : px_L} {R : px_R} {e : (px_M)} (hS : SR sh R) (hd : 66 ≤ d) (hcu : cu ≤ mc) (hsu : su ≤ ms) (h : lpf (fun a : px_M => f_X12_readAll_39 a) M = some e) (g : WX RX12 cX12_readAll 4 none ("readAll", []) d mc ms X (px_QF Post mc ms) 268 [] [] sh e L R n cu su) : WX RX12 cX12_readAll 4 none ("readAll", []) d mc ms X (px_QF Post mc ms) 39 [(0, .ref 73)] [] sh M L R n cu su := by
  have key := lpf_wp (P := (fun a => WX RX12 cX12_readAll 4 none ("readAll", []) d mc ms X (px_QF Post mc ms) 39 [(0, .ref 73)] [] sh a L R n cu su)) (G := (fun t => WX RX12 cX12_readAll 4 none ("readAll", []) d mc ms X (px_QF Post mc ms) 268 [] [] sh t L R n cu su)) (fun a r h g => s_X12_readAll_39b (M := a) (L := L) (R := R) hS hd hcu hsu h g) (a := M) h g
  exact key
noncomputable def f_X12_readAll (M : px_M) : Option (px_M) :=
  nm (px_u M 73 78 0) fun M_2 =>
  nm (px_u M_2 73 80 0) fun M_7 =>
  nm (px_u M_7 73 81 0) fun M_12 =>
  nm (px_u M_12 73 82 (-1)) fun M_17 =>
  nm (px_u M_17 73 85 0) fun M_22 =>
  nm (px_u M_22 73 83 (-1)) fun M_27 =>
  nm (px_u M_27 73 84 1) fun M_32 =>
  bd1 (f_X12_blanks M_32) fun e_36 =>
  bd1 (lpf (fun a : px_M => f_X12_readAll_39 a) e_36) fun e_39 =>
  some e_39
theorem s_X12_readAll {d : Nat} {X : Nat × (Nat → Int32)} {sh : px_Sh} {M : px_M} {L : px_L} {R : px_R} {n : Nat} {e : px_M} (hS : SR sh R) (hd : 66 ≤ d) (h : f_X12_readAll M = some e) : MX yX12_readAll cX12_readAll 4 none d 0 0 X [.ref 73] sh M L R n (px_pu none sh e L R n) := by
  refine MX.of (by decide +kernel) (by exact Nat.le_of_ble_eq_true rfl) ?_
  have hcu : 0 ≤ 0 := Nat.zero_le _
  have hsu : 0 ≤ 0 := Nat.zero_le _
  have g : px_pu none sh e L R n none sh e L R n := ⟨rfl, rfl, rfl, rfl, rfl, rfl⟩
  unfold f_X12_readAll at h
  refine wx_aload_n dX12_readAll_0 rfl ?_
  refine wx_iconst (v := 0) dX12_readAll_1 (by decide) ?_
  refine wx_putI dX12_readAll_2 fl_X12_333 (sc_73 hS) (Or.inl rfl) rfl ⟨rfl, rfl⟩ ?_
  refine wx_namM (fun M_2 q_2 => ?_)
  replace h := nm_at h q_2
  refine wx_aload_n dX12_readAll_5 rfl ?_
  refine wx_iconst (v := 0) dX12_readAll_6 (by decide) ?_
  refine wx_putI dX12_readAll_7 fl_X12_358 (sc_73 hS) (Or.inl rfl) rfl ⟨rfl, rfl⟩ ?_
  refine wx_namM (fun M_7 q_7 => ?_)
  replace h := nm_at h q_7
  refine wx_aload_n dX12_readAll_10 rfl ?_
  refine wx_iconst (v := 0) dX12_readAll_11 (by decide) ?_
  refine wx_putI dX12_readAll_12 fl_X12_339 (sc_73 hS) (Or.inl rfl) rfl ⟨rfl, rfl⟩ ?_
  refine wx_namM (fun M_12 q_12 => ?_)
  replace h := nm_at h q_12
  refine wx_aload_n dX12_readAll_15 rfl ?_
  refine wx_iconst (v := (-1)) dX12_readAll_16 (by decide) ?_
  refine wx_putI dX12_readAll_17 fl_X12_342 (sc_73 hS) (Or.inl rfl) rfl ⟨rfl, rfl⟩ ?_
  refine wx_namM (fun M_17 q_17 => ?_)
  replace h := nm_at h q_17
  refine wx_aload_n dX12_readAll_20 rfl ?_
  refine wx_iconst (v := 0) dX12_readAll_21 (by decide) ?_
  refine wx_putI dX12_readAll_22 fl_X12_406 (sc_73 hS) (Or.inl rfl) rfl ⟨rfl, rfl⟩ ?_
  refine wx_namM (fun M_22 q_22 => ?_)
  replace h := nm_at h q_22
  refine wx_aload_n dX12_readAll_25 rfl ?_
  refine wx_iconst (v := (-1)) dX12_readAll_26 (by decide) ?_
  refine wx_putI dX12_readAll_27 fl_X12_409 (sc_73 hS) (Or.inl rfl) rfl ⟨rfl, rfl⟩ ?_
  refine wx_namM (fun M_27 q_27 => ?_)
  replace h := nm_at h q_27
  refine wx_aload_n dX12_readAll_30 rfl ?_
  refine wx_iconst (v := 1) dX12_readAll_31 (by decide) ?_
  refine wx_putI dX12_readAll_32 fl_X12_412 (sc_73 hS) (Or.inl rfl) rfl ⟨rfl, rfl⟩ ?_
  refine wx_namM (fun M_32 q_32 => ?_)
  replace h := nm_at h q_32
  refine wx_aload_n dX12_readAll_35 rfl ?_
  obtain ⟨e_36, k_36, h⟩ := bd1_some h
  refine wx_cVv dX12_readAll_36 ml_X12_345 my_X12_blanks iv_X12_blanks (sc_73 hS) (by decide) (s_X12_blanks (d := d - 1) hS (by omega) k_36) rfl (by omega) (by exact Nat.le_of_ble_eq_true rfl) hcu hsu ?_
  obtain ⟨e_39, k_39, h⟩ := bd1_some h
  refine wx_sub (s_X12_readAll_39 hS hd hcu hsu k_39 ?_) (px_s rfl px_0)
  refine wx_vret dX12_readAll_268 hcu hsu ?_
  obtain rfl := Option.some.inj h
  exact g
noncomputable def f_X12_rules_76 (M : px_M) (x1 : Int32) (x2 : Int32) : Option ((Int32 × px_M) ⊕ (px_M)) :=
  if x1 ≤ x2 then
    some (.inr M)
  else
    ok (ix x2 300) <|
    nm (M 177 x2.toNatClampNeg) fun v_92 =>
    ok (ix x2 300) <|
    nm (px_u M 178 x2.toNatClampNeg v_92) fun M_92 =>
    some (.inl ((x2 + 1), M_92))
theorem s_X12_rules_76b {x1 : Int32} {x2 : Int32} {M : px_M} {L : px_L} {R : px_R} {e : ((Int32 × px_M) ⊕ (px_M))} (hS : SR sh R) (hd : 67 ≤ d) (hcu : cu ≤ mc) (hsu : su ≤ ms) (h : f_X12_rules_76 M x1 x2 = some e) (g : (sE (fun a => WX RX12 cX12_rules 3 (some .int) ("rules", []) d mc ms X (px_QF Post mc ms) 76 [(0, .ref 73), (1, .int x1), (2, .int a.1)] [] sh (a.2) L R n cu su) (fun t => WX RX12 cX12_rules 3 (some .int) ("rules", []) d mc ms X (px_QF Post mc ms) 99 [(0, .ref 73), (1, .int x1)] [] sh t L R n cu su)) e) : WX RX12 cX12_rules 3 (some .int) ("rules", []) d mc ms X (px_QF Post mc ms) 76 [(0, .ref 73), (1, .int x1), (2, .int x2)] [] sh M L R n cu su := by
  unfold f_X12_rules_76 at h
  refine wx_iload_n dX12_rules_76 rfl ?_
  refine wx_iload_n dX12_rules_77 rfl ?_
  refine wx_icmp_ge (tgt := 99) dX12_rules_78 (by decide) (fun c_78 => ?_) (fun c_78 => ?_)
  · replace h := it_t h c_78
    obtain rfl := Option.some.inj h
    replace g := sE_r g
    exact wx_sub g (px_s rfl (px_s rfl px_0))
  · replace h := it_f h c_78
    refine wx_aload_n dX12_rules_81 rfl ?_
    refine wx_getR dX12_rules_82 fl_X12_89 (sc_73 hS) rfl (rr_73_40 hS) ?_
    refine wx_iload_n dX12_rules_85 rfl ?_
    refine wx_aload_n dX12_rules_86 rfl ?_
    refine wx_getR dX12_rules_87 fl_X12_86 (sc_73 hS) rfl (rr_73_39 hS) ?_
    refine wx_iload_n dX12_rules_90 rfl ?_
    obtain ⟨w_91, h⟩ := ok_some h
    refine wx_iald dX12_rules_91 (sc_177 hS) (ix_in w_91) ?_
    refine wx_nami (fun v_92 q_92 => ?_)
    replace h := nm_at h q_92
    obtain ⟨w_92, h⟩ := ok_some h
    refine wx_iast dX12_rules_92 (sc_178 hS) (ix_in w_92) ?_
    refine wx_namM (fun M_92 q_92 => ?_)
    replace h := nm_at h q_92
    refine wx_iinc (lv' := [(2, _), (0, _), (1, _)]) dX12_rules_93 rfl (i_1 _) (by decide) rfl ?_
    refine wx_goto (tgt := 76) dX12_rules_96 (by decide) ?_
    obtain rfl := Option.some.inj h
    replace g := sE_l g
    exact wx_sub g (px_s rfl (px_s rfl (px_s rfl px_0)))
theorem s_X12_rules_76 {x1 : Int32} {x2 : Int32} {M : px_M} {L : px_L} {R : px_R} {e : (px_M)} (hS : SR sh R) (hd : 67 ≤ d) (hcu : cu ≤ mc) (hsu : su ≤ ms) (h : lpf (fun a : Int32 × px_M => f_X12_rules_76 a.2 x1 a.1) (x2, M) = some e) (g : WX RX12 cX12_rules 3 (some .int) ("rules", []) d mc ms X (px_QF Post mc ms) 99 [(0, .ref 73), (1, .int x1)] [] sh e L R n cu su) : WX RX12 cX12_rules 3 (some .int) ("rules", []) d mc ms X (px_QF Post mc ms) 76 [(0, .ref 73), (1, .int x1), (2, .int x2)] [] sh M L R n cu su := by
  have key := lpf_wp (P := (fun a => WX RX12 cX12_rules 3 (some .int) ("rules", []) d mc ms X (px_QF Post mc ms) 76 [(0, .ref 73), (1, .int x1), (2, .int a.1)] [] sh (a.2) L R n cu su)) (G := (fun t => WX RX12 cX12_rules 3 (some .int) ("rules", []) d mc ms X (px_QF Post mc ms) 99 [(0, .ref 73), (1, .int x1)] [] sh t L R n cu su)) (fun a r h g => s_X12_rules_76b (x1 := x1) (x2 := a.1) (M := a.2) (L := L) (R := R) hS hd hcu hsu h g) (a := (x2, M)) h g
  exact key
noncomputable def f_X12_rules_23 (M : px_M) (x1 : Int32) (z0 : Int32) : Option (Int32 × px_M) :=
  bd1 (f_X12_bad M z0 1) fun e_24 =>
  if e_24.1 = 0 then
    nm (px_u e_24.2 73 77 0) fun M_34 =>
    nm (px_u M_34 73 79 x1) fun M_39 =>
    bd1 (f_X12_readAll M_39) fun e_43 =>
    nm (px_u e_43 73 35 0) fun M_48 =>
    nm (M_48 73 82) fun v_56 =>
    nm (px_u M_48 73 38 v_56) fun M_56 =>
    if (M_56 73 81) = 0 then
      bd1 (lpf (fun a : Int32 × px_M => f_X12_rules_76 a.2 x1 a.1) (0, M_56)) fun e_76 =>
      nm (px_u e_76 73 37 x1) fun M_101 =>
      nm (M_101 73 85) fun v_109 =>
      nm (px_u M_101 73 36 v_109) fun M_109 =>
      some ((M_109 73 36), M_109)
    else
      some (((M_56 73 81) - 10), M_56)
  else
    some (0, e_24.2)
theorem s_X12_rules_23 {x1 : Int32} {z0 : Int32} {M : px_M} {L : px_L} {R : px_R} {e : (Int32 × px_M)} (hS : SR sh R) (hd : 67 ≤ d) (hcu : cu ≤ mc) (hsu : su ≤ ms) (h : f_X12_rules_23 M x1 z0 = some e) (g : Post (some (.int (e.1))) sh (e.2) L R n) : WX RX12 cX12_rules 3 (some .int) ("rules", []) d mc ms X (px_QF Post mc ms) 23 [(0, .ref 73), (1, .int x1)] [.int z0, .ref 73] sh M L R n cu su := by
  unfold f_X12_rules_23 at h
  refine wx_iconst (v := 1) dX12_rules_23 (by decide) ?_
  obtain ⟨e_24, k_24, h⟩ := bd1_some h
  refine wx_cVi dX12_rules_24 ml_X12_207 my_X12_bad iv_X12_bad (sc_73 hS) (by decide) (s_X12_bad (d := d - 1) hS (by omega) k_24) rfl (by omega) (by exact Nat.le_of_ble_eq_true rfl) hcu hsu ?_
  refine wx_if_eq (tgt := 32) dX12_rules_27 (by decide) (fun c_27 => ?_) (fun c_27 => ?_)
  · replace h := it_t h c_27
    refine wx_aload_n dX12_rules_32 rfl ?_
    refine wx_iconst (v := 0) dX12_rules_33 (by decide) ?_
    refine wx_putI dX12_rules_34 fl_X12_330 (sc_73 hS) (Or.inl rfl) rfl ⟨rfl, rfl⟩ ?_
    refine wx_namM (fun M_34 q_34 => ?_)
    replace h := nm_at h q_34
    refine wx_aload_n dX12_rules_37 rfl ?_
    refine wx_iload_n dX12_rules_38 rfl ?_
    refine wx_putI dX12_rules_39 fl_X12_327 (sc_73 hS) (Or.inl rfl) rfl ⟨rfl, rfl⟩ ?_
    refine wx_namM (fun M_39 q_39 => ?_)
    replace h := nm_at h q_39
    refine wx_aload_n dX12_rules_42 rfl ?_
    obtain ⟨e_43, k_43, h⟩ := bd1_some h
    refine wx_cVv dX12_rules_43 ml_X12_415 my_X12_readAll iv_X12_readAll (sc_73 hS) (by decide) (s_X12_readAll (d := d - 1) hS (by omega) k_43) rfl (by omega) (by exact Nat.le_of_ble_eq_true rfl) hcu hsu ?_
    refine wx_aload_n dX12_rules_46 rfl ?_
    refine wx_iconst (v := 0) dX12_rules_47 (by decide) ?_
    refine wx_putI dX12_rules_48 fl_X12_324 (sc_73 hS) (Or.inl rfl) rfl ⟨rfl, rfl⟩ ?_
    refine wx_namM (fun M_48 q_48 => ?_)
    replace h := nm_at h q_48
    refine wx_aload_n dX12_rules_51 rfl ?_
    refine wx_aload_n dX12_rules_52 rfl ?_
    refine wx_getI dX12_rules_53 fl_X12_342 (sc_73 hS) rfl ?_
    refine wx_nami (fun v_56 q_56 => ?_)
    replace h := nm_at h q_56
    refine wx_putI dX12_rules_56 fl_X12_83 (sc_73 hS) (Or.inl rfl) rfl ⟨rfl, rfl⟩ ?_
    refine wx_namM (fun M_56 q_56 => ?_)
    replace h := nm_at h q_56
    refine wx_aload_n dX12_rules_59 rfl ?_
    refine wx_getI dX12_rules_60 fl_X12_339 (sc_73 hS) rfl ?_
    refine wx_if_eq (tgt := 74) dX12_rules_63 (by decide) (fun c_63 => ?_) (fun c_63 => ?_)
    · replace h := it_t h c_63
      refine wx_iconst (v := 0) dX12_rules_74 (by decide) ?_
      refine wx_istore_n (lv' := [(2, _), (0, _), (1, _)]) dX12_rules_75 (by decide) rfl ?_
      obtain ⟨e_76, k_76, h⟩ := bd1_some h
      refine wx_sub (s_X12_rules_76 hS hd hcu hsu k_76 ?_) (px_s rfl (px_s rfl (px_s rfl px_0)))
      refine wx_aload_n dX12_rules_99 rfl ?_
      refine wx_iload_n dX12_rules_100 rfl ?_
      refine wx_putI dX12_rules_101 fl_X12_418 (sc_73 hS) (Or.inl rfl) rfl ⟨rfl, rfl⟩ ?_
      refine wx_namM (fun M_101 q_101 => ?_)
      replace h := nm_at h q_101
      refine wx_aload_n dX12_rules_104 rfl ?_
      refine wx_aload_n dX12_rules_105 rfl ?_
      refine wx_getI dX12_rules_106 fl_X12_406 (sc_73 hS) rfl ?_
      refine wx_nami (fun v_109 q_109 => ?_)
      replace h := nm_at h q_109
      refine wx_putI dX12_rules_109 fl_X12_421 (sc_73 hS) (Or.inl rfl) rfl ⟨rfl, rfl⟩ ?_
      refine wx_namM (fun M_109 q_109 => ?_)
      replace h := nm_at h q_109
      refine wx_aload_n dX12_rules_112 rfl ?_
      refine wx_getI dX12_rules_113 fl_X12_421 (sc_73 hS) rfl ?_
      refine wx_iret dX12_rules_116 hcu hsu ?_
      obtain rfl := Option.some.inj h
      exact g
    · replace h := it_f h c_63
      refine wx_aload_n dX12_rules_66 rfl ?_
      refine wx_getI dX12_rules_67 fl_X12_339 (sc_73 hS) rfl ?_
      refine wx_bipush (v := 10) dX12_rules_70 (by decide) ?_
      refine wx_isub dX12_rules_72 ?_
      refine wx_iret dX12_rules_73 hcu hsu ?_
      obtain rfl := Option.some.inj h
      exact g
  · replace h := it_f h c_27
    refine wx_iconst (v := 0) dX12_rules_30 (by decide) ?_
    refine wx_iret dX12_rules_31 hcu hsu ?_
    obtain rfl := Option.some.inj h
    exact g
noncomputable def f_X12_rules (M : px_M) (p1 : Int32) : Option (Int32 × px_M) :=
  nm (px_u M 73 0 0) fun M_2 =>
  bd1 (f_X12_in p1 0 (M_2 73 35)) fun e_12 =>
  if e_12 = 0 then
    f_X12_rules_23 M_2 p1 1
  else
    f_X12_rules_23 M_2 p1 0
theorem s_X12_rules {d : Nat} {X : Nat × (Nat → Int32)} {sh : px_Sh} {M : px_M} {L : px_L} {R : px_R} {n : Nat} {p1 : Int32} {e : Int32 × px_M} (hS : SR sh R) (hd : 67 ≤ d) (h : f_X12_rules M p1 = some e) : MX yX12_rules cX12_rules 3 (some .int) d 0 0 X [.ref 73, .int p1] sh M L R n (px_pu (some (.int e.1)) sh e.2 L R n) := by
  refine MX.of (by decide +kernel) (by exact Nat.le_of_ble_eq_true rfl) ?_
  have hcu : 0 ≤ 0 := Nat.zero_le _
  have hsu : 0 ≤ 0 := Nat.zero_le _
  have g : px_pu (some (.int e.1)) sh e.2 L R n (some (.int e.1)) sh e.2 L R n := ⟨rfl, rfl, rfl, rfl, rfl, rfl⟩
  unfold f_X12_rules at h
  refine wx_aload_n dX12_rules_0 rfl ?_
  refine wx_iconst (v := 0) dX12_rules_1 (by decide) ?_
  refine wx_putI dX12_rules_2 fl_X12_179 (sc_73 hS) (Or.inl rfl) rfl ⟨rfl, rfl⟩ ?_
  refine wx_namM (fun M_2 q_2 => ?_)
  replace h := nm_at h q_2
  refine wx_aload_n dX12_rules_5 rfl ?_
  refine wx_iload_n dX12_rules_6 rfl ?_
  refine wx_iconst (v := 0) dX12_rules_7 (by decide) ?_
  refine wx_aload_n dX12_rules_8 rfl ?_
  refine wx_getI dX12_rules_9 fl_X12_324 (sc_73 hS) rfl ?_
  obtain ⟨e_12, k_12, h⟩ := bd1_some h
  refine wx_cSi dX12_rules_12 ml_X12_203 my_X12_in sv_X12_in (s_X12_in (d := d - 1) hS (by omega) k_12) rfl (by omega) (by exact Nat.le_of_ble_eq_true rfl) hcu hsu ?_
  refine wx_if_ne (tgt := 22) dX12_rules_15 (by decide) (fun c_15 => ?_) (fun c_15 => ?_)
  · replace h := it_f h c_15
    refine wx_iconst (v := 0) dX12_rules_22 (by decide) ?_
    exact wx_sub (s_X12_rules_23 hS hd hcu hsu h g) (px_s rfl (px_s rfl px_0))
  · replace h := it_t h c_15
    refine wx_iconst (v := 1) dX12_rules_18 (by decide) ?_
    refine wx_goto (tgt := 23) dX12_rules_19 (by decide) ?_
    exact wx_sub (s_X12_rules_23 hS hd hcu hsu h g) (px_s rfl (px_s rfl px_0))
noncomputable def f_X12_fault (M : px_M) : Option (Int32 × px_M) :=
  nm (px_u M 73 0 0) fun M_2 =>
  some ((M_2 73 38), M_2)
theorem s_X12_fault {d : Nat} {X : Nat × (Nat → Int32)} {sh : px_Sh} {M : px_M} {L : px_L} {R : px_R} {n : Nat} {e : Int32 × px_M} (hS : SR sh R) (hd : 0 ≤ d) (h : f_X12_fault M = some e) : MX yX12_fault cX12_fault 1 (some .int) d 0 0 X [.ref 73] sh M L R n (px_pu (some (.int e.1)) sh e.2 L R n) := by
  refine MX.of (by decide +kernel) (by exact Nat.le_of_ble_eq_true rfl) ?_
  have hcu : 0 ≤ 0 := Nat.zero_le _
  have hsu : 0 ≤ 0 := Nat.zero_le _
  have g : px_pu (some (.int e.1)) sh e.2 L R n (some (.int e.1)) sh e.2 L R n := ⟨rfl, rfl, rfl, rfl, rfl, rfl⟩
  unfold f_X12_fault at h
  refine wx_aload_n dX12_fault_0 rfl ?_
  refine wx_iconst (v := 0) dX12_fault_1 (by decide) ?_
  refine wx_putI dX12_fault_2 fl_X12_179 (sc_73 hS) (Or.inl rfl) rfl ⟨rfl, rfl⟩ ?_
  refine wx_namM (fun M_2 q_2 => ?_)
  replace h := nm_at h q_2
  refine wx_aload_n dX12_fault_5 rfl ?_
  refine wx_getI dX12_fault_6 fl_X12_83 (sc_73 hS) rfl ?_
  refine wx_iret dX12_fault_9 hcu hsu ?_
  obtain rfl := Option.some.inj h
  exact g
noncomputable def f_X12_asked (M : px_M) : Option (px_M) :=
  nm (px_u M 73 77 1) fun M_2 =>
  nm (M_2 73 37) fun v_10 =>
  nm (px_u M_2 73 79 v_10) fun M_10 =>
  bd1 (f_X12_readAll M_10) fun e_14 =>
  some e_14
theorem s_X12_asked {d : Nat} {X : Nat × (Nat → Int32)} {sh : px_Sh} {M : px_M} {L : px_L} {R : px_R} {n : Nat} {e : px_M} (hS : SR sh R) (hd : 67 ≤ d) (h : f_X12_asked M = some e) : MX yX12_asked cX12_asked 1 none d 0 0 X [.ref 73] sh M L R n (px_pu none sh e L R n) := by
  refine MX.of (by decide +kernel) (by exact Nat.le_of_ble_eq_true rfl) ?_
  have hcu : 0 ≤ 0 := Nat.zero_le _
  have hsu : 0 ≤ 0 := Nat.zero_le _
  have g : px_pu none sh e L R n none sh e L R n := ⟨rfl, rfl, rfl, rfl, rfl, rfl⟩
  unfold f_X12_asked at h
  refine wx_aload_n dX12_asked_0 rfl ?_
  refine wx_iconst (v := 1) dX12_asked_1 (by decide) ?_
  refine wx_putI dX12_asked_2 fl_X12_330 (sc_73 hS) (Or.inl rfl) rfl ⟨rfl, rfl⟩ ?_
  refine wx_namM (fun M_2 q_2 => ?_)
  replace h := nm_at h q_2
  refine wx_aload_n dX12_asked_5 rfl ?_
  refine wx_aload_n dX12_asked_6 rfl ?_
  refine wx_getI dX12_asked_7 fl_X12_418 (sc_73 hS) rfl ?_
  refine wx_nami (fun v_10 q_10 => ?_)
  replace h := nm_at h q_10
  refine wx_putI dX12_asked_10 fl_X12_327 (sc_73 hS) (Or.inl rfl) rfl ⟨rfl, rfl⟩ ?_
  refine wx_namM (fun M_10 q_10 => ?_)
  replace h := nm_at h q_10
  refine wx_aload_n dX12_asked_13 rfl ?_
  obtain ⟨e_14, k_14, h⟩ := bd1_some h
  refine wx_cVv dX12_asked_14 ml_X12_415 my_X12_readAll iv_X12_readAll (sc_73 hS) (by decide) (s_X12_readAll (d := d - 1) hS (by omega) k_14) rfl (by omega) (by exact Nat.le_of_ble_eq_true rfl) hcu hsu ?_
  refine wx_vret dX12_asked_17 hcu hsu ?_
  obtain rfl := Option.some.inj h
  exact g
noncomputable def f_X12_asks_34 (M : px_M) (z0 : Int32) : Option (Int32 × px_M) :=
  some (z0, M)
theorem s_X12_asks_34 {z0 : Int32} {M : px_M} {L : px_L} {R : px_R} {e : (Int32 × px_M)} (hS : SR sh R) (hd : 68 ≤ d) (hcu : cu ≤ mc) (hsu : su ≤ ms) (h : f_X12_asks_34 M z0 = some e) (g : Post (some (.int (e.1))) sh (e.2) L R n) : WX RX12 cX12_asks 1 (some .int) ("asks", []) d mc ms X (px_QF Post mc ms) 34 [] [.int z0] sh M L R n cu su := by
  unfold f_X12_asks_34 at h
  refine wx_iret dX12_asks_34 hcu hsu ?_
  obtain rfl := Option.some.inj h
  exact g
noncomputable def f_X12_asks (M : px_M) : Option (Int32 × px_M) :=
  nm (px_u M 73 0 0) fun M_2 =>
  bd1 (f_X12_asked M_2) fun e_6 =>
  if (e_6 73 83) = (-1) then
    f_X12_asks_34 e_6 (-9)
  else
    f_X12_asks_34 e_6 ((10 * (e_6 73 83)) + (e_6 73 84))
theorem s_X12_asks {d : Nat} {X : Nat × (Nat → Int32)} {sh : px_Sh} {M : px_M} {L : px_L} {R : px_R} {n : Nat} {e : Int32 × px_M} (hS : SR sh R) (hd : 68 ≤ d) (h : f_X12_asks M = some e) : MX yX12_asks cX12_asks 1 (some .int) d 0 0 X [.ref 73] sh M L R n (px_pu (some (.int e.1)) sh e.2 L R n) := by
  refine MX.of (by decide +kernel) (by exact Nat.le_of_ble_eq_true rfl) ?_
  have hcu : 0 ≤ 0 := Nat.zero_le _
  have hsu : 0 ≤ 0 := Nat.zero_le _
  have g : px_pu (some (.int e.1)) sh e.2 L R n (some (.int e.1)) sh e.2 L R n := ⟨rfl, rfl, rfl, rfl, rfl, rfl⟩
  unfold f_X12_asks at h
  refine wx_aload_n dX12_asks_0 rfl ?_
  refine wx_iconst (v := 0) dX12_asks_1 (by decide) ?_
  refine wx_putI dX12_asks_2 fl_X12_179 (sc_73 hS) (Or.inl rfl) rfl ⟨rfl, rfl⟩ ?_
  refine wx_namM (fun M_2 q_2 => ?_)
  replace h := nm_at h q_2
  refine wx_aload_n dX12_asks_5 rfl ?_
  obtain ⟨e_6, k_6, h⟩ := bd1_some h
  refine wx_cVv dX12_asks_6 ml_X12_424 my_X12_asked iv_X12_asked (sc_73 hS) (by decide) (s_X12_asked (d := d - 1) hS (by omega) k_6) rfl (by omega) (by exact Nat.le_of_ble_eq_true rfl) hcu hsu ?_
  refine wx_aload_n dX12_asks_9 rfl ?_
  refine wx_getI dX12_asks_10 fl_X12_409 (sc_73 hS) rfl ?_
  refine wx_iconst (v := (-1)) dX12_asks_13 (by decide) ?_
  refine wx_icmp_ne (tgt := 22) dX12_asks_14 (by decide) (fun c_14 => ?_) (fun c_14 => ?_)
  · replace h := it_f h c_14
    refine wx_bipush (v := 10) dX12_asks_22 (by decide) ?_
    refine wx_aload_n dX12_asks_24 rfl ?_
    refine wx_getI dX12_asks_25 fl_X12_409 (sc_73 hS) rfl ?_
    refine wx_imul dX12_asks_28 ?_
    refine wx_aload_n dX12_asks_29 rfl ?_
    refine wx_getI dX12_asks_30 fl_X12_412 (sc_73 hS) rfl ?_
    refine wx_iadd dX12_asks_33 ?_
    exact wx_sub (s_X12_asks_34 hS hd hcu hsu h g) px_0
  · replace h := it_t h c_14
    refine wx_bipush (v := (-9)) dX12_asks_17 (by decide) ?_
    refine wx_goto (tgt := 34) dX12_asks_19 (by decide) ?_
    exact wx_sub (s_X12_asks_34 hS hd hcu hsu h g) px_0
noncomputable def f_X12_dust_64 (M : px_M) : Option (Int32 × px_M) :=
  some (0, M)
theorem s_X12_dust_64 {M : px_M} {L : px_L} {R : px_R} {e : (Int32 × px_M)} (hS : SR sh R) (hd : 1 ≤ d) (hcu : cu ≤ mc) (hsu : su ≤ ms) (h : f_X12_dust_64 M = some e) (g : Post (some (.int (e.1))) sh (e.2) L R n) : WX RX12 cX12_dust 3 (some .int) ("dust", []) d mc ms X (px_QF Post mc ms) 64 [] [] sh M L R n cu su := by
  unfold f_X12_dust_64 at h
  refine wx_iconst (v := 0) dX12_dust_64 (by decide) ?_
  refine wx_iret dX12_dust_65 hcu hsu ?_
  obtain rfl := Option.some.inj h
  exact g
noncomputable def f_X12_dust_57 (M : px_M) (x1 : Int32) (x2 : Int32) (z0 : Int32) : Option (Int32 × px_M) :=
  bd1 (f_X12_bad M z0 2) fun e_58 =>
  if e_58.1 = 0 then
    if (e_58.2 73 41) = 20 then
      some ((-1), e_58.2)
    else
      ok (ix (e_58.2 73 41) 20) <|
      nm (px_u e_58.2 179 (e_58.2 73 41).toNatClampNeg x1) fun M_86 =>
      ok (ix (M_86 73 41) 20) <|
      nm (px_u M_86 180 (M_86 73 41).toNatClampNeg x2) fun M_96 =>
      nm ((M_96 73 41) + 1) fun v_104 =>
      nm (px_u M_96 73 41 v_104) fun M_104 =>
      some ((M_104 73 41), M_104)
  else
    f_X12_dust_64 e_58.2
theorem s_X12_dust_57 {x1 : Int32} {x2 : Int32} {z0 : Int32} {M : px_M} {L : px_L} {R : px_R} {e : (Int32 × px_M)} (hS : SR sh R) (hd : 1 ≤ d) (hcu : cu ≤ mc) (hsu : su ≤ ms) (h : f_X12_dust_57 M x1 x2 z0 = some e) (g : Post (some (.int (e.1))) sh (e.2) L R n) : WX RX12 cX12_dust 3 (some .int) ("dust", []) d mc ms X (px_QF Post mc ms) 57 [(0, .ref 73), (1, .int x1), (2, .int x2)] [.int z0, .ref 73] sh M L R n cu su := by
  unfold f_X12_dust_57 at h
  refine wx_iconst (v := 2) dX12_dust_57 (by decide) ?_
  obtain ⟨e_58, k_58, h⟩ := bd1_some h
  refine wx_cVi dX12_dust_58 ml_X12_207 my_X12_bad iv_X12_bad (sc_73 hS) (by decide) (s_X12_bad (d := d - 1) hS (by omega) k_58) rfl (by omega) (by exact Nat.le_of_ble_eq_true rfl) hcu hsu ?_
  refine wx_if_eq (tgt := 66) dX12_dust_61 (by decide) (fun c_61 => ?_) (fun c_61 => ?_)
  · replace h := it_t h c_61
    refine wx_aload_n dX12_dust_66 rfl ?_
    refine wx_getI dX12_dust_67 fl_X12_427 (sc_73 hS) rfl ?_
    refine wx_bipush (v := 20) dX12_dust_70 (by decide) ?_
    refine wx_icmp_ne (tgt := 77) dX12_dust_72 (by decide) (fun c_72 => ?_) (fun c_72 => ?_)
    · replace h := it_f h c_72
      refine wx_aload_n dX12_dust_77 rfl ?_
      refine wx_getR dX12_dust_78 fl_X12_92 (sc_73 hS) rfl (rr_73_42 hS) ?_
      refine wx_aload_n dX12_dust_81 rfl ?_
      refine wx_getI dX12_dust_82 fl_X12_427 (sc_73 hS) rfl ?_
      refine wx_iload_n dX12_dust_85 rfl ?_
      obtain ⟨w_86, h⟩ := ok_some h
      refine wx_iast dX12_dust_86 (sc_179 hS) (ix_in w_86) ?_
      refine wx_namM (fun M_86 q_86 => ?_)
      replace h := nm_at h q_86
      refine wx_aload_n dX12_dust_87 rfl ?_
      refine wx_getR dX12_dust_88 fl_X12_95 (sc_73 hS) rfl (rr_73_43 hS) ?_
      refine wx_aload_n dX12_dust_91 rfl ?_
      refine wx_getI dX12_dust_92 fl_X12_427 (sc_73 hS) rfl ?_
      refine wx_iload_n dX12_dust_95 rfl ?_
      obtain ⟨w_96, h⟩ := ok_some h
      refine wx_iast dX12_dust_96 (sc_180 hS) (ix_in w_96) ?_
      refine wx_namM (fun M_96 q_96 => ?_)
      replace h := nm_at h q_96
      refine wx_aload_n dX12_dust_97 rfl ?_
      refine wx_dup dX12_dust_98 rfl ?_
      refine wx_getI dX12_dust_99 fl_X12_427 (sc_73 hS) rfl ?_
      refine wx_iconst (v := 1) dX12_dust_102 (by decide) ?_
      refine wx_iadd dX12_dust_103 ?_
      refine wx_nami (fun v_104 q_104 => ?_)
      replace h := nm_at h q_104
      refine wx_putI dX12_dust_104 fl_X12_427 (sc_73 hS) (Or.inl rfl) rfl ⟨rfl, rfl⟩ ?_
      refine wx_namM (fun M_104 q_104 => ?_)
      replace h := nm_at h q_104
      refine wx_aload_n dX12_dust_107 rfl ?_
      refine wx_getI dX12_dust_108 fl_X12_427 (sc_73 hS) rfl ?_
      refine wx_iret dX12_dust_111 hcu hsu ?_
      obtain rfl := Option.some.inj h
      exact g
    · replace h := it_t h c_72
      refine wx_iconst (v := (-1)) dX12_dust_75 (by decide) ?_
      refine wx_iret dX12_dust_76 hcu hsu ?_
      obtain rfl := Option.some.inj h
      exact g
  · replace h := it_f h c_61
    exact wx_sub (s_X12_dust_64 hS hd hcu hsu h g) px_0
noncomputable def f_X12_dust_52 (M : px_M) (x1 : Int32) (x2 : Int32) : Option (Int32 × px_M) :=
  f_X12_dust_57 M x1 x2 1
theorem s_X12_dust_52 {x1 : Int32} {x2 : Int32} {M : px_M} {L : px_L} {R : px_R} {e : (Int32 × px_M)} (hS : SR sh R) (hd : 1 ≤ d) (hcu : cu ≤ mc) (hsu : su ≤ ms) (h : f_X12_dust_52 M x1 x2 = some e) (g : Post (some (.int (e.1))) sh (e.2) L R n) : WX RX12 cX12_dust 3 (some .int) ("dust", []) d mc ms X (px_QF Post mc ms) 52 [(0, .ref 73), (1, .int x1), (2, .int x2)] [.ref 73] sh M L R n cu su := by
  unfold f_X12_dust_52 at h
  refine wx_iconst (v := 1) dX12_dust_52 (by decide) ?_
  refine wx_goto (tgt := 57) dX12_dust_53 (by decide) ?_
  exact wx_sub (s_X12_dust_57 hS hd hcu hsu h g) (px_s rfl (px_s rfl (px_s rfl px_0)))
noncomputable def f_X12_dust_25 (M : px_M) (x1 : Int32) (x2 : Int32) (z0 : Int32) : Option (Int32 × px_M) :=
  bd1 (f_X12_bad M z0 1) fun e_26 =>
  if e_26.1 = 0 then
    bd1 (f_X12_in x2 0 1999) fun e_38 =>
    if e_38 = 0 then
      f_X12_dust_52 e_26.2 x1 x2
    else
      if (e_26.2 73 24) ≤ x2 then
        f_X12_dust_57 e_26.2 x1 x2 0
      else
        f_X12_dust_52 e_26.2 x1 x2
  else
    f_X12_dust_64 e_26.2
theorem s_X12_dust_25 {x1 : Int32} {x2 : Int32} {z0 : Int32} {M : px_M} {L : px_L} {R : px_R} {e : (Int32 × px_M)} (hS : SR sh R) (hd : 1 ≤ d) (hcu : cu ≤ mc) (hsu : su ≤ ms) (h : f_X12_dust_25 M x1 x2 z0 = some e) (g : Post (some (.int (e.1))) sh (e.2) L R n) : WX RX12 cX12_dust 3 (some .int) ("dust", []) d mc ms X (px_QF Post mc ms) 25 [(0, .ref 73), (1, .int x1), (2, .int x2)] [.int z0, .ref 73] sh M L R n cu su := by
  unfold f_X12_dust_25 at h
  refine wx_iconst (v := 1) dX12_dust_25 (by decide) ?_
  obtain ⟨e_26, k_26, h⟩ := bd1_some h
  refine wx_cVi dX12_dust_26 ml_X12_207 my_X12_bad iv_X12_bad (sc_73 hS) (by decide) (s_X12_bad (d := d - 1) hS (by omega) k_26) rfl (by omega) (by exact Nat.le_of_ble_eq_true rfl) hcu hsu ?_
  refine wx_if_ne (tgt := 64) dX12_dust_29 (by decide) (fun c_29 => ?_) (fun c_29 => ?_)
  · replace h := it_f h c_29
    exact wx_sub (s_X12_dust_64 hS hd hcu hsu h g) px_0
  · replace h := it_t h c_29
    refine wx_aload_n dX12_dust_32 rfl ?_
    refine wx_iload_n dX12_dust_33 rfl ?_
    refine wx_iconst (v := 0) dX12_dust_34 (by decide) ?_
    refine wx_sipush (v := 1999) dX12_dust_35 (by decide) ?_
    obtain ⟨e_38, k_38, h⟩ := bd1_some h
    refine wx_cSi dX12_dust_38 ml_X12_203 my_X12_in sv_X12_in (s_X12_in (d := d - 1) hS (by omega) k_38) rfl (by omega) (by exact Nat.le_of_ble_eq_true rfl) hcu hsu ?_
    refine wx_if_eq (tgt := 52) dX12_dust_41 (by decide) (fun c_41 => ?_) (fun c_41 => ?_)
    · replace h := it_t h c_41
      exact wx_sub (s_X12_dust_52 hS hd hcu hsu h g) (px_s rfl (px_s rfl (px_s rfl px_0)))
    · replace h := it_f h c_41
      refine wx_iload_n dX12_dust_44 rfl ?_
      refine wx_aload_n dX12_dust_45 rfl ?_
      refine wx_getI dX12_dust_46 fl_X12_307 (sc_73 hS) rfl ?_
      refine wx_icmp_ge (tgt := 56) dX12_dust_49 (by decide) (fun c_49 => ?_) (fun c_49 => ?_)
      · replace h := it_t h c_49
        refine wx_iconst (v := 0) dX12_dust_56 (by decide) ?_
        exact wx_sub (s_X12_dust_57 hS hd hcu hsu h g) (px_s rfl (px_s rfl (px_s rfl px_0)))
      · replace h := it_f h c_49
        exact wx_sub (s_X12_dust_52 hS hd hcu hsu h g) (px_s rfl (px_s rfl (px_s rfl px_0)))
noncomputable def f_X12_dust (M : px_M) (p1 : Int32) (p2 : Int32) : Option (Int32 × px_M) :=
  nm (px_u M 73 0 0) fun M_2 =>
  bd1 (f_X12_in p1 0 ((M_2 73 9) - 1)) fun e_14 =>
  if e_14 = 0 then
    f_X12_dust_25 M_2 p1 p2 1
  else
    f_X12_dust_25 M_2 p1 p2 0
theorem s_X12_dust {d : Nat} {X : Nat × (Nat → Int32)} {sh : px_Sh} {M : px_M} {L : px_L} {R : px_R} {n : Nat} {p1 : Int32} {p2 : Int32} {e : Int32 × px_M} (hS : SR sh R) (hd : 1 ≤ d) (h : f_X12_dust M p1 p2 = some e) : MX yX12_dust cX12_dust 3 (some .int) d 0 0 X [.ref 73, .int p1, .int p2] sh M L R n (px_pu (some (.int e.1)) sh e.2 L R n) := by
  refine MX.of (by decide +kernel) (by exact Nat.le_of_ble_eq_true rfl) ?_
  have hcu : 0 ≤ 0 := Nat.zero_le _
  have hsu : 0 ≤ 0 := Nat.zero_le _
  have g : px_pu (some (.int e.1)) sh e.2 L R n (some (.int e.1)) sh e.2 L R n := ⟨rfl, rfl, rfl, rfl, rfl, rfl⟩
  unfold f_X12_dust at h
  refine wx_aload_n dX12_dust_0 rfl ?_
  refine wx_iconst (v := 0) dX12_dust_1 (by decide) ?_
  refine wx_putI dX12_dust_2 fl_X12_179 (sc_73 hS) (Or.inl rfl) rfl ⟨rfl, rfl⟩ ?_
  refine wx_namM (fun M_2 q_2 => ?_)
  replace h := nm_at h q_2
  refine wx_aload_n dX12_dust_5 rfl ?_
  refine wx_iload_n dX12_dust_6 rfl ?_
  refine wx_iconst (v := 0) dX12_dust_7 (by decide) ?_
  refine wx_aload_n dX12_dust_8 rfl ?_
  refine wx_getI dX12_dust_9 fl_X12_222 (sc_73 hS) rfl ?_
  refine wx_iconst (v := 1) dX12_dust_12 (by decide) ?_
  refine wx_isub dX12_dust_13 ?_
  obtain ⟨e_14, k_14, h⟩ := bd1_some h
  refine wx_cSi dX12_dust_14 ml_X12_203 my_X12_in sv_X12_in (s_X12_in (d := d - 1) hS (by omega) k_14) rfl (by omega) (by exact Nat.le_of_ble_eq_true rfl) hcu hsu ?_
  refine wx_if_ne (tgt := 24) dX12_dust_17 (by decide) (fun c_17 => ?_) (fun c_17 => ?_)
  · replace h := it_f h c_17
    refine wx_iconst (v := 0) dX12_dust_24 (by decide) ?_
    exact wx_sub (s_X12_dust_25 hS hd hcu hsu h g) (px_s rfl (px_s rfl (px_s rfl px_0)))
  · replace h := it_t h c_17
    refine wx_iconst (v := 1) dX12_dust_20 (by decide) ?_
    refine wx_goto (tgt := 25) dX12_dust_21 (by decide) ?_
    exact wx_sub (s_X12_dust_25 hS hd hcu hsu h g) (px_s rfl (px_s rfl (px_s rfl px_0)))
noncomputable def f_X12_flyDay_290 (M : px_M) (x1 : Int32) (x2 : Int32) (x4 : Int32) : Option ((Int32 × px_M) ⊕ (px_M)) :=
  some (.inl ((x4 + 1), M))
theorem s_X12_flyDay_290 {x1 : Int32} {x2 : Int32} {x4 : Int32} {M : px_M} {L : px_L} {R : px_R} {e : ((Int32 × px_M) ⊕ (px_M))} (hS : SR sh R) (hd : 68 ≤ d) (hcu : cu ≤ mc) (hsu : su ≤ ms) (h : f_X12_flyDay_290 M x1 x2 x4 = some e) (g : (sE (fun a => WX RX12 cX12_flyDay 5 none ("flyDay", []) d mc ms X (px_QF Post mc ms) 125 [(0, .ref 73), (1, .int x1), (2, .int x2), (4, .int a.1)] [] sh (a.2) L R n cu su) (fun t => WX RX12 cX12_flyDay 5 none ("flyDay", []) d mc ms X (px_QF Post mc ms) 296 [(0, .ref 73), (1, .int x1), (2, .int x2)] [] sh t L R n cu su)) e) : WX RX12 cX12_flyDay 5 none ("flyDay", []) d mc ms X (px_QF Post mc ms) 290 [(0, .ref 73), (1, .int x1), (2, .int x2), (4, .int x4)] [] sh M L R n cu su := by
  unfold f_X12_flyDay_290 at h
  refine wx_iinc (lv' := [(4, _), (0, _), (1, _), (2, _)]) dX12_flyDay_290 rfl (i_1 _) (by decide) rfl ?_
  refine wx_goto (tgt := 125) dX12_flyDay_293 (by decide) ?_
  obtain rfl := Option.some.inj h
  replace g := sE_l g
  exact wx_sub g (px_s rfl (px_s rfl (px_s rfl (px_s rfl px_0))))
noncomputable def f_X12_flyDay_246 (M : px_M) (x1 : Int32) (x2 : Int32) (x4 : Int32) : Option ((Int32 × px_M) ⊕ (px_M)) :=
  if ((M 73 24) - (M 73 24) / 10 * 10) = 9 then
    ok (ix x4 16) <|
    if (M 82 x4.toNatClampNeg) ≤ 0 then
      f_X12_flyDay_290 M x1 x2 x4
    else
      ok (ix x4 16) <|
      nm ((M 82 x4.toNatClampNeg) - 1) fun v_278 =>
      ok (ix x4 16) <|
      nm (px_u M 82 x4.toNatClampNeg v_278) fun M_278 =>
      ok (ix x4 16) <|
      nm ((M_278 83 x4.toNatClampNeg) + 1) fun v_289 =>
      ok (ix x4 16) <|
      nm (px_u M_278 83 x4.toNatClampNeg v_289) fun M_289 =>
      f_X12_flyDay_290 M_289 x1 x2 x4
  else
    f_X12_flyDay_290 M x1 x2 x4
theorem s_X12_flyDay_246 {x1 : Int32} {x2 : Int32} {x4 : Int32} {M : px_M} {L : px_L} {R : px_R} {e : ((Int32 × px_M) ⊕ (px_M))} (hS : SR sh R) (hd : 68 ≤ d) (hcu : cu ≤ mc) (hsu : su ≤ ms) (h : f_X12_flyDay_246 M x1 x2 x4 = some e) (g : (sE (fun a => WX RX12 cX12_flyDay 5 none ("flyDay", []) d mc ms X (px_QF Post mc ms) 125 [(0, .ref 73), (1, .int x1), (2, .int x2), (4, .int a.1)] [] sh (a.2) L R n cu su) (fun t => WX RX12 cX12_flyDay 5 none ("flyDay", []) d mc ms X (px_QF Post mc ms) 296 [(0, .ref 73), (1, .int x1), (2, .int x2)] [] sh t L R n cu su)) e) : WX RX12 cX12_flyDay 5 none ("flyDay", []) d mc ms X (px_QF Post mc ms) 246 [(0, .ref 73), (1, .int x1), (2, .int x2), (4, .int x4)] [] sh M L R n cu su := by
  unfold f_X12_flyDay_246 at h
  refine wx_aload_n dX12_flyDay_246 rfl ?_
  refine wx_getI dX12_flyDay_247 fl_X12_307 (sc_73 hS) rfl ?_
  refine wx_bipush (v := 10) dX12_flyDay_250 (by decide) ?_
  refine wx_irem dX12_flyDay_252 (by decide) ?_
  refine wx_bipush (v := 9) dX12_flyDay_253 (by decide) ?_
  refine wx_icmp_ne (tgt := 290) dX12_flyDay_255 (by decide) (fun c_255 => ?_) (fun c_255 => ?_)
  · replace h := it_f h c_255
    exact wx_sub (s_X12_flyDay_290 hS hd hcu hsu h g) (px_s rfl (px_s rfl (px_s rfl (px_s rfl px_0))))
  · replace h := it_t h c_255
    refine wx_aload_n dX12_flyDay_258 rfl ?_
    refine wx_getR dX12_flyDay_259 fl_X12_35 (sc_73 hS) rfl (rr_73_16 hS) ?_
    refine wx_iload dX12_flyDay_262 rfl ?_
    obtain ⟨w_264, h⟩ := ok_some h
    refine wx_iald dX12_flyDay_264 (sc_82 hS) (ix_in w_264) ?_
    refine wx_if_le (tgt := 290) dX12_flyDay_265 (by decide) (fun c_265 => ?_) (fun c_265 => ?_)
    · replace h := it_t h c_265
      exact wx_sub (s_X12_flyDay_290 hS hd hcu hsu h g) (px_s rfl (px_s rfl (px_s rfl (px_s rfl px_0))))
    · replace h := it_f h c_265
      refine wx_aload_n dX12_flyDay_268 rfl ?_
      refine wx_getR dX12_flyDay_269 fl_X12_35 (sc_73 hS) rfl (rr_73_16 hS) ?_
      refine wx_iload dX12_flyDay_272 rfl ?_
      refine wx_dup2_11 dX12_flyDay_274 rfl rfl ?_
      obtain ⟨w_275, h⟩ := ok_some h
      refine wx_iald dX12_flyDay_275 (sc_82 hS) (ix_in w_275) ?_
      refine wx_iconst (v := 1) dX12_flyDay_276 (by decide) ?_
      refine wx_isub dX12_flyDay_277 ?_
      refine wx_nami (fun v_278 q_278 => ?_)
      replace h := nm_at h q_278
      obtain ⟨w_278, h⟩ := ok_some h
      refine wx_iast dX12_flyDay_278 (sc_82 hS) (ix_in w_278) ?_
      refine wx_namM (fun M_278 q_278 => ?_)
      replace h := nm_at h q_278
      refine wx_aload_n dX12_flyDay_279 rfl ?_
      refine wx_getR dX12_flyDay_280 fl_X12_38 (sc_73 hS) rfl (rr_73_17 hS) ?_
      refine wx_iload dX12_flyDay_283 rfl ?_
      refine wx_dup2_11 dX12_flyDay_285 rfl rfl ?_
      obtain ⟨w_286, h⟩ := ok_some h
      refine wx_iald dX12_flyDay_286 (sc_83 hS) (ix_in w_286) ?_
      refine wx_iconst (v := 1) dX12_flyDay_287 (by decide) ?_
      refine wx_iadd dX12_flyDay_288 ?_
      refine wx_nami (fun v_289 q_289 => ?_)
      replace h := nm_at h q_289
      obtain ⟨w_289, h⟩ := ok_some h
      refine wx_iast dX12_flyDay_289 (sc_83 hS) (ix_in w_289) ?_
      refine wx_namM (fun M_289 q_289 => ?_)
      replace h := nm_at h q_289
      exact wx_sub (s_X12_flyDay_290 hS hd hcu hsu h g) (px_s rfl (px_s rfl (px_s rfl (px_s rfl px_0))))
noncomputable def f_X12_flyDay_237 (M : px_M) (x1 : Int32) (x2 : Int32) (x4 : Int32) (z0 : Int32) (z1 : Int32) : Option ((Int32 × px_M) ⊕ (px_M)) :=
  ok (ix z1 16) <|
  nm (px_u M 84 z1.toNatClampNeg z0) fun M_237 =>
  ok (ix x4 16) <|
  nm (px_u M_237 85 x4.toNatClampNeg 0) fun M_245 =>
  f_X12_flyDay_246 M_245 x1 x2 x4
theorem s_X12_flyDay_237 {x1 : Int32} {x2 : Int32} {x4 : Int32} {z0 : Int32} {z1 : Int32} {M : px_M} {L : px_L} {R : px_R} {e : ((Int32 × px_M) ⊕ (px_M))} (hS : SR sh R) (hd : 68 ≤ d) (hcu : cu ≤ mc) (hsu : su ≤ ms) (h : f_X12_flyDay_237 M x1 x2 x4 z0 z1 = some e) (g : (sE (fun a => WX RX12 cX12_flyDay 5 none ("flyDay", []) d mc ms X (px_QF Post mc ms) 125 [(0, .ref 73), (1, .int x1), (2, .int x2), (4, .int a.1)] [] sh (a.2) L R n cu su) (fun t => WX RX12 cX12_flyDay 5 none ("flyDay", []) d mc ms X (px_QF Post mc ms) 296 [(0, .ref 73), (1, .int x1), (2, .int x2)] [] sh t L R n cu su)) e) : WX RX12 cX12_flyDay 5 none ("flyDay", []) d mc ms X (px_QF Post mc ms) 237 [(0, .ref 73), (1, .int x1), (2, .int x2), (4, .int x4)] [.int z0, .int z1, .ref 84] sh M L R n cu su := by
  unfold f_X12_flyDay_237 at h
  obtain ⟨w_237, h⟩ := ok_some h
  refine wx_iast dX12_flyDay_237 (sc_84 hS) (ix_in w_237) ?_
  refine wx_namM (fun M_237 q_237 => ?_)
  replace h := nm_at h q_237
  refine wx_aload_n dX12_flyDay_238 rfl ?_
  refine wx_getR dX12_flyDay_239 fl_X12_44 (sc_73 hS) rfl (rr_73_19 hS) ?_
  refine wx_iload dX12_flyDay_242 rfl ?_
  refine wx_iconst (v := 0) dX12_flyDay_244 (by decide) ?_
  obtain ⟨w_245, h⟩ := ok_some h
  refine wx_iast dX12_flyDay_245 (sc_85 hS) (ix_in w_245) ?_
  refine wx_namM (fun M_245 q_245 => ?_)
  replace h := nm_at h q_245
  exact wx_sub (s_X12_flyDay_246 hS hd hcu hsu h g) (px_s rfl (px_s rfl (px_s rfl (px_s rfl px_0))))
noncomputable def f_X12_flyDay_195 (M : px_M) (x1 : Int32) (x2 : Int32) (x4 : Int32) (z0 : Int32) (z1 : Int32) : Option ((Int32 × px_M) ⊕ (px_M)) :=
  ok (ix z1 16) <|
  nm (px_u M 85 z1.toNatClampNeg z0) fun M_195 =>
  ok (ix x4 16) <|
  if (M_195 85 x4.toNatClampNeg) = 5 then
    ok (ix x4 16) <|
    if 2 ≤ (M_195 84 x4.toNatClampNeg) then
      f_X12_flyDay_237 M_195 x1 x2 x4 2 x4
    else
      ok (ix x4 16) <|
      f_X12_flyDay_237 M_195 x1 x2 x4 ((M_195 84 x4.toNatClampNeg) + 1) x4
  else
    f_X12_flyDay_246 M_195 x1 x2 x4
theorem s_X12_flyDay_195 {x1 : Int32} {x2 : Int32} {x4 : Int32} {z0 : Int32} {z1 : Int32} {M : px_M} {L : px_L} {R : px_R} {e : ((Int32 × px_M) ⊕ (px_M))} (hS : SR sh R) (hd : 68 ≤ d) (hcu : cu ≤ mc) (hsu : su ≤ ms) (h : f_X12_flyDay_195 M x1 x2 x4 z0 z1 = some e) (g : (sE (fun a => WX RX12 cX12_flyDay 5 none ("flyDay", []) d mc ms X (px_QF Post mc ms) 125 [(0, .ref 73), (1, .int x1), (2, .int x2), (4, .int a.1)] [] sh (a.2) L R n cu su) (fun t => WX RX12 cX12_flyDay 5 none ("flyDay", []) d mc ms X (px_QF Post mc ms) 296 [(0, .ref 73), (1, .int x1), (2, .int x2)] [] sh t L R n cu su)) e) : WX RX12 cX12_flyDay 5 none ("flyDay", []) d mc ms X (px_QF Post mc ms) 195 [(0, .ref 73), (1, .int x1), (2, .int x2), (4, .int x4)] [.int z0, .int z1, .ref 85] sh M L R n cu su := by
  unfold f_X12_flyDay_195 at h
  obtain ⟨w_195, h⟩ := ok_some h
  refine wx_iast dX12_flyDay_195 (sc_85 hS) (ix_in w_195) ?_
  refine wx_namM (fun M_195 q_195 => ?_)
  replace h := nm_at h q_195
  refine wx_aload_n dX12_flyDay_196 rfl ?_
  refine wx_getR dX12_flyDay_197 fl_X12_44 (sc_73 hS) rfl (rr_73_19 hS) ?_
  refine wx_iload dX12_flyDay_200 rfl ?_
  obtain ⟨w_202, h⟩ := ok_some h
  refine wx_iald dX12_flyDay_202 (sc_85 hS) (ix_in w_202) ?_
  refine wx_iconst (v := 5) dX12_flyDay_203 (by decide) ?_
  refine wx_icmp_ne (tgt := 246) dX12_flyDay_204 (by decide) (fun c_204 => ?_) (fun c_204 => ?_)
  · replace h := it_f h c_204
    exact wx_sub (s_X12_flyDay_246 hS hd hcu hsu h g) (px_s rfl (px_s rfl (px_s rfl (px_s rfl px_0))))
  · replace h := it_t h c_204
    refine wx_aload_n dX12_flyDay_207 rfl ?_
    refine wx_getR dX12_flyDay_208 fl_X12_41 (sc_73 hS) rfl (rr_73_18 hS) ?_
    refine wx_iload dX12_flyDay_211 rfl ?_
    refine wx_aload_n dX12_flyDay_213 rfl ?_
    refine wx_getR dX12_flyDay_214 fl_X12_41 (sc_73 hS) rfl (rr_73_18 hS) ?_
    refine wx_iload dX12_flyDay_217 rfl ?_
    obtain ⟨w_219, h⟩ := ok_some h
    refine wx_iald dX12_flyDay_219 (sc_84 hS) (ix_in w_219) ?_
    refine wx_iconst (v := 2) dX12_flyDay_220 (by decide) ?_
    refine wx_icmp_ge (tgt := 236) dX12_flyDay_221 (by decide) (fun c_221 => ?_) (fun c_221 => ?_)
    · replace h := it_t h c_221
      refine wx_iconst (v := 2) dX12_flyDay_236 (by decide) ?_
      exact wx_sub (s_X12_flyDay_237 hS hd hcu hsu h g) (px_s rfl (px_s rfl (px_s rfl (px_s rfl px_0))))
    · replace h := it_f h c_221
      refine wx_aload_n dX12_flyDay_224 rfl ?_
      refine wx_getR dX12_flyDay_225 fl_X12_41 (sc_73 hS) rfl (rr_73_18 hS) ?_
      refine wx_iload dX12_flyDay_228 rfl ?_
      obtain ⟨w_230, h⟩ := ok_some h
      refine wx_iald dX12_flyDay_230 (sc_84 hS) (ix_in w_230) ?_
      refine wx_iconst (v := 1) dX12_flyDay_231 (by decide) ?_
      refine wx_iadd dX12_flyDay_232 ?_
      refine wx_goto (tgt := 237) dX12_flyDay_233 (by decide) ?_
      exact wx_sub (s_X12_flyDay_237 hS hd hcu hsu h g) (px_s rfl (px_s rfl (px_s rfl (px_s rfl px_0))))
noncomputable def f_X12_flyDay_125 (M : px_M) (x1 : Int32) (x2 : Int32) (x4 : Int32) : Option ((Int32 × px_M) ⊕ (px_M)) :=
  if (M 73 9) ≤ x4 then
    some (.inr M)
  else
    ok (ix x4 16) <|
    if (M 86 x4.toNatClampNeg) = 0 then
      ok (ix x4 16) <|
      ok (nz ((M 73 25) + 32) 0) <|
      if (((((M 83 x4.toNatClampNeg) * 100) * 32) / ((M 73 25) + 32)) / 100) ≤ 20 then
        f_X12_flyDay_195 M x1 x2 x4 0 x4
      else
        ok (ix x4 16) <|
        f_X12_flyDay_195 M x1 x2 x4 ((M 85 x4.toNatClampNeg) + 1) x4
    else
      f_X12_flyDay_290 M x1 x2 x4
theorem s_X12_flyDay_125b {x1 : Int32} {x2 : Int32} {x4 : Int32} {M : px_M} {L : px_L} {R : px_R} {e : ((Int32 × px_M) ⊕ (px_M))} (hS : SR sh R) (hd : 68 ≤ d) (hcu : cu ≤ mc) (hsu : su ≤ ms) (h : f_X12_flyDay_125 M x1 x2 x4 = some e) (g : (sE (fun a => WX RX12 cX12_flyDay 5 none ("flyDay", []) d mc ms X (px_QF Post mc ms) 125 [(0, .ref 73), (1, .int x1), (2, .int x2), (4, .int a.1)] [] sh (a.2) L R n cu su) (fun t => WX RX12 cX12_flyDay 5 none ("flyDay", []) d mc ms X (px_QF Post mc ms) 296 [(0, .ref 73), (1, .int x1), (2, .int x2)] [] sh t L R n cu su)) e) : WX RX12 cX12_flyDay 5 none ("flyDay", []) d mc ms X (px_QF Post mc ms) 125 [(0, .ref 73), (1, .int x1), (2, .int x2), (4, .int x4)] [] sh M L R n cu su := by
  unfold f_X12_flyDay_125 at h
  refine wx_iload dX12_flyDay_125 rfl ?_
  refine wx_aload_n dX12_flyDay_127 rfl ?_
  refine wx_getI dX12_flyDay_128 fl_X12_222 (sc_73 hS) rfl ?_
  refine wx_icmp_ge (tgt := 296) dX12_flyDay_131 (by decide) (fun c_131 => ?_) (fun c_131 => ?_)
  · replace h := it_t h c_131
    obtain rfl := Option.some.inj h
    replace g := sE_r g
    exact wx_sub g (px_s rfl (px_s rfl (px_s rfl px_0)))
  · replace h := it_f h c_131
    refine wx_aload_n dX12_flyDay_134 rfl ?_
    refine wx_getR dX12_flyDay_135 fl_X12_47 (sc_73 hS) rfl (rr_73_20 hS) ?_
    refine wx_iload dX12_flyDay_138 rfl ?_
    obtain ⟨w_140, h⟩ := ok_some h
    refine wx_bald dX12_flyDay_140 (sc_86 hS) (ix_in w_140) ?_
    refine wx_if_eq (tgt := 147) dX12_flyDay_141 (by decide) (fun c_141 => ?_) (fun c_141 => ?_)
    · replace h := it_t h c_141
      refine wx_aload_n dX12_flyDay_147 rfl ?_
      refine wx_getR dX12_flyDay_148 fl_X12_44 (sc_73 hS) rfl (rr_73_19 hS) ?_
      refine wx_iload dX12_flyDay_151 rfl ?_
      refine wx_aload_n dX12_flyDay_153 rfl ?_
      refine wx_getR dX12_flyDay_154 fl_X12_38 (sc_73 hS) rfl (rr_73_17 hS) ?_
      refine wx_iload dX12_flyDay_157 rfl ?_
      obtain ⟨w_159, h⟩ := ok_some h
      refine wx_iald dX12_flyDay_159 (sc_83 hS) (ix_in w_159) ?_
      refine wx_bipush (v := 100) dX12_flyDay_160 (by decide) ?_
      refine wx_imul dX12_flyDay_162 ?_
      refine wx_bipush (v := 32) dX12_flyDay_163 (by decide) ?_
      refine wx_imul dX12_flyDay_165 ?_
      refine wx_aload_n dX12_flyDay_166 rfl ?_
      refine wx_getI dX12_flyDay_167 fl_X12_59 (sc_73 hS) rfl ?_
      refine wx_bipush (v := 32) dX12_flyDay_170 (by decide) ?_
      refine wx_iadd dX12_flyDay_172 ?_
      obtain ⟨w_173, h⟩ := ok_some h
      refine wx_idiv dX12_flyDay_173 (nz_n w_173) ?_
      refine wx_bipush (v := 100) dX12_flyDay_174 (by decide) ?_
      refine wx_idiv dX12_flyDay_176 (by decide) ?_
      refine wx_bipush (v := 20) dX12_flyDay_177 (by decide) ?_
      refine wx_icmp_le (tgt := 194) dX12_flyDay_179 (by decide) (fun c_179 => ?_) (fun c_179 => ?_)
      · replace h := it_t h c_179
        refine wx_iconst (v := 0) dX12_flyDay_194 (by decide) ?_
        exact wx_sub (s_X12_flyDay_195 hS hd hcu hsu h g) (px_s rfl (px_s rfl (px_s rfl (px_s rfl px_0))))
      · replace h := it_f h c_179
        refine wx_aload_n dX12_flyDay_182 rfl ?_
        refine wx_getR dX12_flyDay_183 fl_X12_44 (sc_73 hS) rfl (rr_73_19 hS) ?_
        refine wx_iload dX12_flyDay_186 rfl ?_
        obtain ⟨w_188, h⟩ := ok_some h
        refine wx_iald dX12_flyDay_188 (sc_85 hS) (ix_in w_188) ?_
        refine wx_iconst (v := 1) dX12_flyDay_189 (by decide) ?_
        refine wx_iadd dX12_flyDay_190 ?_
        refine wx_goto (tgt := 195) dX12_flyDay_191 (by decide) ?_
        exact wx_sub (s_X12_flyDay_195 hS hd hcu hsu h g) (px_s rfl (px_s rfl (px_s rfl (px_s rfl px_0))))
    · replace h := it_f h c_141
      refine wx_goto (tgt := 290) dX12_flyDay_144 (by decide) ?_
      exact wx_sub (s_X12_flyDay_290 hS hd hcu hsu h g) (px_s rfl (px_s rfl (px_s rfl (px_s rfl px_0))))
theorem s_X12_flyDay_125 {x1 : Int32} {x2 : Int32} {x4 : Int32} {M : px_M} {L : px_L} {R : px_R} {e : (px_M)} (hS : SR sh R) (hd : 68 ≤ d) (hcu : cu ≤ mc) (hsu : su ≤ ms) (h : lpf (fun a : Int32 × px_M => f_X12_flyDay_125 a.2 x1 x2 a.1) (x4, M) = some e) (g : WX RX12 cX12_flyDay 5 none ("flyDay", []) d mc ms X (px_QF Post mc ms) 296 [(0, .ref 73), (1, .int x1), (2, .int x2)] [] sh e L R n cu su) : WX RX12 cX12_flyDay 5 none ("flyDay", []) d mc ms X (px_QF Post mc ms) 125 [(0, .ref 73), (1, .int x1), (2, .int x2), (4, .int x4)] [] sh M L R n cu su := by
  have key := lpf_wp (P := (fun a => WX RX12 cX12_flyDay 5 none ("flyDay", []) d mc ms X (px_QF Post mc ms) 125 [(0, .ref 73), (1, .int x1), (2, .int x2), (4, .int a.1)] [] sh (a.2) L R n cu su)) (G := (fun t => WX RX12 cX12_flyDay 5 none ("flyDay", []) d mc ms X (px_QF Post mc ms) 296 [(0, .ref 73), (1, .int x1), (2, .int x2)] [] sh t L R n cu su)) (fun a r h g => s_X12_flyDay_125b (x1 := x1) (x2 := x2) (x4 := a.1) (M := a.2) (L := L) (R := R) hS hd hcu hsu h g) (a := (x4, M)) h g
  exact key
noncomputable def f_X12_flyDay_116 (M : px_M) (x1 : Int32) (x2 : Int32) (x4 : Int32) : Option ((Int32 × px_M) ⊕ (px_M)) :=
  some (.inl ((x4 + 1), M))
theorem s_X12_flyDay_116 {x1 : Int32} {x2 : Int32} {x4 : Int32} {M : px_M} {L : px_L} {R : px_R} {e : ((Int32 × px_M) ⊕ (px_M))} (hS : SR sh R) (hd : 68 ≤ d) (hcu : cu ≤ mc) (hsu : su ≤ ms) (h : f_X12_flyDay_116 M x1 x2 x4 = some e) (g : (sE (fun a => WX RX12 cX12_flyDay 5 none ("flyDay", []) d mc ms X (px_QF Post mc ms) 80 [(0, .ref 73), (1, .int x1), (2, .int x2), (4, .int a.1)] [] sh (a.2) L R n cu su) (fun t => WX RX12 cX12_flyDay 5 none ("flyDay", []) d mc ms X (px_QF Post mc ms) 122 [(0, .ref 73), (1, .int x1), (2, .int x2)] [] sh t L R n cu su)) e) : WX RX12 cX12_flyDay 5 none ("flyDay", []) d mc ms X (px_QF Post mc ms) 116 [(0, .ref 73), (1, .int x1), (2, .int x2), (4, .int x4)] [] sh M L R n cu su := by
  unfold f_X12_flyDay_116 at h
  refine wx_iinc (lv' := [(4, _), (0, _), (1, _), (2, _)]) dX12_flyDay_116 rfl (i_1 _) (by decide) rfl ?_
  refine wx_goto (tgt := 80) dX12_flyDay_119 (by decide) ?_
  obtain rfl := Option.some.inj h
  replace g := sE_l g
  exact wx_sub g (px_s rfl (px_s rfl (px_s rfl (px_s rfl px_0))))
noncomputable def f_X12_flyDay_80 (M : px_M) (x1 : Int32) (x2 : Int32) (x4 : Int32) : Option ((Int32 × px_M) ⊕ (px_M)) :=
  if (M 73 41) ≤ x4 then
    some (.inr M)
  else
    ok (ix x4 20) <|
    if (M 180 x4.toNatClampNeg) = (M 73 24) then
      ok (ix x4 20) <|
      ok (ix (M 179 x4.toNatClampNeg) 16) <|
      nm (px_u M 86 (M 179 x4.toNatClampNeg).toNatClampNeg 1) fun M_115 =>
      f_X12_flyDay_116 M_115 x1 x2 x4
    else
      f_X12_flyDay_116 M x1 x2 x4
theorem s_X12_flyDay_80b {x1 : Int32} {x2 : Int32} {x4 : Int32} {M : px_M} {L : px_L} {R : px_R} {e : ((Int32 × px_M) ⊕ (px_M))} (hS : SR sh R) (hd : 68 ≤ d) (hcu : cu ≤ mc) (hsu : su ≤ ms) (h : f_X12_flyDay_80 M x1 x2 x4 = some e) (g : (sE (fun a => WX RX12 cX12_flyDay 5 none ("flyDay", []) d mc ms X (px_QF Post mc ms) 80 [(0, .ref 73), (1, .int x1), (2, .int x2), (4, .int a.1)] [] sh (a.2) L R n cu su) (fun t => WX RX12 cX12_flyDay 5 none ("flyDay", []) d mc ms X (px_QF Post mc ms) 122 [(0, .ref 73), (1, .int x1), (2, .int x2)] [] sh t L R n cu su)) e) : WX RX12 cX12_flyDay 5 none ("flyDay", []) d mc ms X (px_QF Post mc ms) 80 [(0, .ref 73), (1, .int x1), (2, .int x2), (4, .int x4)] [] sh M L R n cu su := by
  unfold f_X12_flyDay_80 at h
  refine wx_iload dX12_flyDay_80 rfl ?_
  refine wx_aload_n dX12_flyDay_82 rfl ?_
  refine wx_getI dX12_flyDay_83 fl_X12_427 (sc_73 hS) rfl ?_
  refine wx_icmp_ge (tgt := 122) dX12_flyDay_86 (by decide) (fun c_86 => ?_) (fun c_86 => ?_)
  · replace h := it_t h c_86
    obtain rfl := Option.some.inj h
    replace g := sE_r g
    exact wx_sub g (px_s rfl (px_s rfl (px_s rfl px_0)))
  · replace h := it_f h c_86
    refine wx_aload_n dX12_flyDay_89 rfl ?_
    refine wx_getR dX12_flyDay_90 fl_X12_95 (sc_73 hS) rfl (rr_73_43 hS) ?_
    refine wx_iload dX12_flyDay_93 rfl ?_
    obtain ⟨w_95, h⟩ := ok_some h
    refine wx_iald dX12_flyDay_95 (sc_180 hS) (ix_in w_95) ?_
    refine wx_aload_n dX12_flyDay_96 rfl ?_
    refine wx_getI dX12_flyDay_97 fl_X12_307 (sc_73 hS) rfl ?_
    refine wx_icmp_ne (tgt := 116) dX12_flyDay_100 (by decide) (fun c_100 => ?_) (fun c_100 => ?_)
    · replace h := it_f h c_100
      exact wx_sub (s_X12_flyDay_116 hS hd hcu hsu h g) (px_s rfl (px_s rfl (px_s rfl (px_s rfl px_0))))
    · replace h := it_t h c_100
      refine wx_aload_n dX12_flyDay_103 rfl ?_
      refine wx_getR dX12_flyDay_104 fl_X12_47 (sc_73 hS) rfl (rr_73_20 hS) ?_
      refine wx_aload_n dX12_flyDay_107 rfl ?_
      refine wx_getR dX12_flyDay_108 fl_X12_92 (sc_73 hS) rfl (rr_73_42 hS) ?_
      refine wx_iload dX12_flyDay_111 rfl ?_
      obtain ⟨w_113, h⟩ := ok_some h
      refine wx_iald dX12_flyDay_113 (sc_179 hS) (ix_in w_113) ?_
      refine wx_iconst (v := 1) dX12_flyDay_114 (by decide) ?_
      obtain ⟨w_115, h⟩ := ok_some h
      refine wx_bast dX12_flyDay_115 (sc_86 hS) (ix_in w_115) rfl ?_
      refine wx_namM (fun M_115 q_115 => ?_)
      replace h := nm_at h q_115
      exact wx_sub (s_X12_flyDay_116 hS hd hcu hsu h g) (px_s rfl (px_s rfl (px_s rfl (px_s rfl px_0))))
theorem s_X12_flyDay_80 {x1 : Int32} {x2 : Int32} {x4 : Int32} {M : px_M} {L : px_L} {R : px_R} {e : (px_M)} (hS : SR sh R) (hd : 68 ≤ d) (hcu : cu ≤ mc) (hsu : su ≤ ms) (h : lpf (fun a : Int32 × px_M => f_X12_flyDay_80 a.2 x1 x2 a.1) (x4, M) = some e) (g : WX RX12 cX12_flyDay 5 none ("flyDay", []) d mc ms X (px_QF Post mc ms) 122 [(0, .ref 73), (1, .int x1), (2, .int x2)] [] sh e L R n cu su) : WX RX12 cX12_flyDay 5 none ("flyDay", []) d mc ms X (px_QF Post mc ms) 80 [(0, .ref 73), (1, .int x1), (2, .int x2), (4, .int x4)] [] sh M L R n cu su := by
  have key := lpf_wp (P := (fun a => WX RX12 cX12_flyDay 5 none ("flyDay", []) d mc ms X (px_QF Post mc ms) 80 [(0, .ref 73), (1, .int x1), (2, .int x2), (4, .int a.1)] [] sh (a.2) L R n cu su)) (G := (fun t => WX RX12 cX12_flyDay 5 none ("flyDay", []) d mc ms X (px_QF Post mc ms) 122 [(0, .ref 73), (1, .int x1), (2, .int x2)] [] sh t L R n cu su)) (fun a r h g => s_X12_flyDay_80b (x1 := x1) (x2 := x2) (x4 := a.1) (M := a.2) (L := L) (R := R) hS hd hcu hsu h g) (a := (x4, M)) h g
  exact key
noncomputable def f_X12_flyDay_61 (M : px_M) (x1 : Int32) (x2 : Int32) (x3 : Int32) : Option (px_M) :=
  nm (x3 / 72) fun v_66 =>
  nm (px_u M 73 25 v_66) fun M_66 =>
  nm (x3 - x3 / 72 * 72) fun v_74 =>
  nm (px_u M_66 73 26 v_74) fun M_74 =>
  bd1 (lpf (fun a : Int32 × px_M => f_X12_flyDay_80 a.2 x1 x2 a.1) (0, M_74)) fun e_80 =>
  bd1 (lpf (fun a : Int32 × px_M => f_X12_flyDay_125 a.2 x1 x2 a.1) (0, e_80)) fun e_125 =>
  ok (ix (e_125 73 24) 2000) <|
  nm (px_u e_125 181 (e_125 73 24).toNatClampNeg x2) fun M_305 =>
  nm (M_305 73 25) fun v_318 =>
  ok (ix (M_305 73 24) 2000) <|
  nm (px_u M_305 182 (M_305 73 24).toNatClampNeg v_318) fun M_318 =>
  nm (M_318 73 26) fun v_331 =>
  ok (ix (M_318 73 24) 2000) <|
  nm (px_u M_318 183 (M_318 73 24).toNatClampNeg v_331) fun M_331 =>
  ok (ix (M_331 73 24) 2000) <|
  nm (px_u M_331 184 (M_331 73 24).toNatClampNeg x1) fun M_341 =>
  nm ((M_341 73 24) + 1) fun v_349 =>
  nm (px_u M_341 73 24 v_349) fun M_349 =>
  some M_349
theorem s_X12_flyDay_61 {x1 : Int32} {x2 : Int32} {x3 : Int32} {M : px_M} {L : px_L} {R : px_R} {e : (px_M)} (hS : SR sh R) (hd : 68 ≤ d) (hcu : cu ≤ mc) (hsu : su ≤ ms) (h : f_X12_flyDay_61 M x1 x2 x3 = some e) (g : Post none sh e L R n) : WX RX12 cX12_flyDay 5 none ("flyDay", []) d mc ms X (px_QF Post mc ms) 61 [(0, .ref 73), (1, .int x1), (2, .int x2), (3, .int x3)] [] sh M L R n cu su := by
  unfold f_X12_flyDay_61 at h
  refine wx_aload_n dX12_flyDay_61 rfl ?_
  refine wx_iload_n dX12_flyDay_62 rfl ?_
  refine wx_bipush (v := 72) dX12_flyDay_63 (by decide) ?_
  refine wx_idiv dX12_flyDay_65 (by decide) ?_
  refine wx_nami (fun v_66 q_66 => ?_)
  replace h := nm_at h q_66
  refine wx_putI dX12_flyDay_66 fl_X12_59 (sc_73 hS) (Or.inl rfl) rfl ⟨rfl, rfl⟩ ?_
  refine wx_namM (fun M_66 q_66 => ?_)
  replace h := nm_at h q_66
  refine wx_aload_n dX12_flyDay_69 rfl ?_
  refine wx_iload_n dX12_flyDay_70 rfl ?_
  refine wx_bipush (v := 72) dX12_flyDay_71 (by decide) ?_
  refine wx_irem dX12_flyDay_73 (by decide) ?_
  refine wx_nami (fun v_74 q_74 => ?_)
  replace h := nm_at h q_74
  refine wx_putI dX12_flyDay_74 fl_X12_304 (sc_73 hS) (Or.inl rfl) rfl ⟨rfl, rfl⟩ ?_
  refine wx_namM (fun M_74 q_74 => ?_)
  replace h := nm_at h q_74
  refine wx_iconst (v := 0) dX12_flyDay_77 (by decide) ?_
  refine wx_istore (lv' := [(4, _), (0, _), (1, _), (2, _), (3, _)]) dX12_flyDay_78 (by decide) rfl ?_
  obtain ⟨e_80, k_80, h⟩ := bd1_some h
  refine wx_sub (s_X12_flyDay_80 hS hd hcu hsu k_80 ?_) (px_s rfl (px_s rfl (px_s rfl (px_s rfl px_0))))
  refine wx_iconst (v := 0) dX12_flyDay_122 (by decide) ?_
  refine wx_istore (lv' := [(4, _), (0, _), (1, _), (2, _)]) dX12_flyDay_123 (by decide) rfl ?_
  obtain ⟨e_125, k_125, h⟩ := bd1_some h
  refine wx_sub (s_X12_flyDay_125 hS hd hcu hsu k_125 ?_) (px_s rfl (px_s rfl (px_s rfl (px_s rfl px_0))))
  refine wx_aload_n dX12_flyDay_296 rfl ?_
  refine wx_getR dX12_flyDay_297 fl_X12_98 (sc_73 hS) rfl (rr_73_44 hS) ?_
  refine wx_aload_n dX12_flyDay_300 rfl ?_
  refine wx_getI dX12_flyDay_301 fl_X12_307 (sc_73 hS) rfl ?_
  refine wx_iload_n dX12_flyDay_304 rfl ?_
  obtain ⟨w_305, h⟩ := ok_some h
  refine wx_iast dX12_flyDay_305 (sc_181 hS) (ix_in w_305) ?_
  refine wx_namM (fun M_305 q_305 => ?_)
  replace h := nm_at h q_305
  refine wx_aload_n dX12_flyDay_306 rfl ?_
  refine wx_getR dX12_flyDay_307 fl_X12_101 (sc_73 hS) rfl (rr_73_45 hS) ?_
  refine wx_aload_n dX12_flyDay_310 rfl ?_
  refine wx_getI dX12_flyDay_311 fl_X12_307 (sc_73 hS) rfl ?_
  refine wx_aload_n dX12_flyDay_314 rfl ?_
  refine wx_getI dX12_flyDay_315 fl_X12_59 (sc_73 hS) rfl ?_
  refine wx_nami (fun v_318 q_318 => ?_)
  replace h := nm_at h q_318
  obtain ⟨w_318, h⟩ := ok_some h
  refine wx_iast dX12_flyDay_318 (sc_182 hS) (ix_in w_318) ?_
  refine wx_namM (fun M_318 q_318 => ?_)
  replace h := nm_at h q_318
  refine wx_aload_n dX12_flyDay_319 rfl ?_
  refine wx_getR dX12_flyDay_320 fl_X12_104 (sc_73 hS) rfl (rr_73_46 hS) ?_
  refine wx_aload_n dX12_flyDay_323 rfl ?_
  refine wx_getI dX12_flyDay_324 fl_X12_307 (sc_73 hS) rfl ?_
  refine wx_aload_n dX12_flyDay_327 rfl ?_
  refine wx_getI dX12_flyDay_328 fl_X12_304 (sc_73 hS) rfl ?_
  refine wx_nami (fun v_331 q_331 => ?_)
  replace h := nm_at h q_331
  obtain ⟨w_331, h⟩ := ok_some h
  refine wx_iast dX12_flyDay_331 (sc_183 hS) (ix_in w_331) ?_
  refine wx_namM (fun M_331 q_331 => ?_)
  replace h := nm_at h q_331
  refine wx_aload_n dX12_flyDay_332 rfl ?_
  refine wx_getR dX12_flyDay_333 fl_X12_107 (sc_73 hS) rfl (rr_73_47 hS) ?_
  refine wx_aload_n dX12_flyDay_336 rfl ?_
  refine wx_getI dX12_flyDay_337 fl_X12_307 (sc_73 hS) rfl ?_
  refine wx_iload_n dX12_flyDay_340 rfl ?_
  obtain ⟨w_341, h⟩ := ok_some h
  refine wx_iast dX12_flyDay_341 (sc_184 hS) (ix_in w_341) ?_
  refine wx_namM (fun M_341 q_341 => ?_)
  replace h := nm_at h q_341
  refine wx_aload_n dX12_flyDay_342 rfl ?_
  refine wx_dup dX12_flyDay_343 rfl ?_
  refine wx_getI dX12_flyDay_344 fl_X12_307 (sc_73 hS) rfl ?_
  refine wx_iconst (v := 1) dX12_flyDay_347 (by decide) ?_
  refine wx_iadd dX12_flyDay_348 ?_
  refine wx_nami (fun v_349 q_349 => ?_)
  replace h := nm_at h q_349
  refine wx_putI dX12_flyDay_349 fl_X12_307 (sc_73 hS) (Or.inl rfl) rfl ⟨rfl, rfl⟩ ?_
  refine wx_namM (fun M_349 q_349 => ?_)
  replace h := nm_at h q_349
  refine wx_vret dX12_flyDay_352 hcu hsu ?_
  obtain rfl := Option.some.inj h
  exact g
noncomputable def f_X12_flyDay_25 (M : px_M) (x1 : Int32) (z0 : Int32) : Option (px_M) :=
  bd1 (f_X12_goesTo (M 73 25) (M 73 26) z0 x1) fun e_36 =>
  if e_36 = (-1) then
    bd1 (f_X12_goesTo (M 73 25) (M 73 26) 1 x1) fun e_57 =>
    f_X12_flyDay_61 M x1 1 e_57
  else
    f_X12_flyDay_61 M x1 z0 e_36
theorem s_X12_flyDay_25 {x1 : Int32} {z0 : Int32} {M : px_M} {L : px_L} {R : px_R} {e : (px_M)} (hS : SR sh R) (hd : 68 ≤ d) (hcu : cu ≤ mc) (hsu : su ≤ ms) (h : f_X12_flyDay_25 M x1 z0 = some e) (g : Post none sh e L R n) : WX RX12 cX12_flyDay 5 none ("flyDay", []) d mc ms X (px_QF Post mc ms) 25 [(0, .ref 73), (1, .int x1)] [.int z0] sh M L R n cu su := by
  unfold f_X12_flyDay_25 at h
  refine wx_istore_n (lv' := [(2, _), (0, _), (1, _)]) dX12_flyDay_25 (by decide) rfl ?_
  refine wx_aload_n dX12_flyDay_26 rfl ?_
  refine wx_getI dX12_flyDay_27 fl_X12_59 (sc_73 hS) rfl ?_
  refine wx_aload_n dX12_flyDay_30 rfl ?_
  refine wx_getI dX12_flyDay_31 fl_X12_304 (sc_73 hS) rfl ?_
  refine wx_iload_n dX12_flyDay_34 rfl ?_
  refine wx_iload_n dX12_flyDay_35 rfl ?_
  obtain ⟨e_36, k_36, h⟩ := bd1_some h
  refine wx_cSi dX12_flyDay_36 ml_X12_314 my_X12_goesTo sv_X12_goesTo (s_X12_goesTo (d := d - 1) hS (by omega) k_36) rfl (by omega) (by exact Nat.le_of_ble_eq_true rfl) hcu hsu ?_
  refine wx_istore_n (lv' := [(3, _), (2, _), (0, _), (1, _)]) dX12_flyDay_39 (by decide) rfl ?_
  refine wx_iload_n dX12_flyDay_40 rfl ?_
  refine wx_iconst (v := (-1)) dX12_flyDay_41 (by decide) ?_
  refine wx_icmp_ne (tgt := 61) dX12_flyDay_42 (by decide) (fun c_42 => ?_) (fun c_42 => ?_)
  · replace h := it_f h c_42
    exact wx_sub (s_X12_flyDay_61 hS hd hcu hsu h g) (px_s rfl (px_s rfl (px_s rfl (px_s rfl px_0))))
  · replace h := it_t h c_42
    refine wx_iconst (v := 1) dX12_flyDay_45 (by decide) ?_
    refine wx_istore_n (lv' := [(2, _), (3, _), (0, _), (1, _)]) dX12_flyDay_46 (by decide) rfl ?_
    refine wx_aload_n dX12_flyDay_47 rfl ?_
    refine wx_getI dX12_flyDay_48 fl_X12_59 (sc_73 hS) rfl ?_
    refine wx_aload_n dX12_flyDay_51 rfl ?_
    refine wx_getI dX12_flyDay_52 fl_X12_304 (sc_73 hS) rfl ?_
    refine wx_iconst (v := 1) dX12_flyDay_55 (by decide) ?_
    refine wx_iload_n dX12_flyDay_56 rfl ?_
    obtain ⟨e_57, k_57, h⟩ := bd1_some h
    refine wx_cSi dX12_flyDay_57 ml_X12_314 my_X12_goesTo sv_X12_goesTo (s_X12_goesTo (d := d - 1) hS (by omega) k_57) rfl (by omega) (by exact Nat.le_of_ble_eq_true rfl) hcu hsu ?_
    refine wx_istore_n (lv' := [(3, _), (2, _), (0, _), (1, _)]) dX12_flyDay_60 (by decide) rfl ?_
    exact wx_sub (s_X12_flyDay_61 hS hd hcu hsu h g) (px_s rfl (px_s rfl (px_s rfl (px_s rfl px_0))))
noncomputable def f_X12_flyDay (M : px_M) : Option (px_M) :=
  bd1 (f_X12_strength M) fun e_1 =>
  bd1 (f_X12_asked M) fun e_6 =>
  if (e_6 73 83) = (-1) then
    f_X12_flyDay_25 e_6 e_1 1
  else
    f_X12_flyDay_25 e_6 e_1 (e_6 73 84)
theorem s_X12_flyDay {d : Nat} {X : Nat × (Nat → Int32)} {sh : px_Sh} {M : px_M} {L : px_L} {R : px_R} {n : Nat} {e : px_M} (hS : SR sh R) (hd : 68 ≤ d) (h : f_X12_flyDay M = some e) : MX yX12_flyDay cX12_flyDay 5 none d 0 0 X [.ref 73] sh M L R n (px_pu none sh e L R n) := by
  refine MX.of (by decide +kernel) (by exact Nat.le_of_ble_eq_true rfl) ?_
  have hcu : 0 ≤ 0 := Nat.zero_le _
  have hsu : 0 ≤ 0 := Nat.zero_le _
  have g : px_pu none sh e L R n none sh e L R n := ⟨rfl, rfl, rfl, rfl, rfl, rfl⟩
  unfold f_X12_flyDay at h
  refine wx_aload_n dX12_flyDay_0 rfl ?_
  obtain ⟨e_1, k_1, h⟩ := bd1_some h
  refine wx_cVi dX12_flyDay_1 ml_X12_317 my_X12_strength iv_X12_strength (sc_73 hS) (by decide) (s_X12_strength (d := d - 1) hS (by omega) k_1) rfl (by omega) (by exact Nat.le_of_ble_eq_true rfl) hcu hsu ?_
  refine wx_istore_n (lv' := [(1, _), (0, _)]) dX12_flyDay_4 (by decide) rfl ?_
  refine wx_aload_n dX12_flyDay_5 rfl ?_
  obtain ⟨e_6, k_6, h⟩ := bd1_some h
  refine wx_cVv dX12_flyDay_6 ml_X12_424 my_X12_asked iv_X12_asked (sc_73 hS) (by decide) (s_X12_asked (d := d - 1) hS (by omega) k_6) rfl (by omega) (by exact Nat.le_of_ble_eq_true rfl) hcu hsu ?_
  refine wx_aload_n dX12_flyDay_9 rfl ?_
  refine wx_getI dX12_flyDay_10 fl_X12_409 (sc_73 hS) rfl ?_
  refine wx_iconst (v := (-1)) dX12_flyDay_13 (by decide) ?_
  refine wx_icmp_ne (tgt := 21) dX12_flyDay_14 (by decide) (fun c_14 => ?_) (fun c_14 => ?_)
  · replace h := it_f h c_14
    refine wx_aload_n dX12_flyDay_21 rfl ?_
    refine wx_getI dX12_flyDay_22 fl_X12_412 (sc_73 hS) rfl ?_
    exact wx_sub (s_X12_flyDay_25 hS hd hcu hsu h g) (px_s rfl (px_s rfl px_0))
  · replace h := it_t h c_14
    refine wx_iconst (v := 1) dX12_flyDay_17 (by decide) ?_
    refine wx_goto (tgt := 25) dX12_flyDay_18 (by decide) ?_
    exact wx_sub (s_X12_flyDay_25 hS hd hcu hsu h g) (px_s rfl (px_s rfl px_0))
noncomputable def f_X12_fly_112 (M : px_M) (x1 : Int32) (x2 : Int32) (z0 : Int32) : Option ((Int32 × Int32 × px_M) ⊕ (Int32 × px_M)) :=
  some (.inl (x2, z0, M))
theorem s_X12_fly_112 {x1 : Int32} {x2 : Int32} {z0 : Int32} {M : px_M} {L : px_L} {R : px_R} {e : ((Int32 × Int32 × px_M) ⊕ (Int32 × px_M))} (hS : SR sh R) (hd : 69 ≤ d) (hcu : cu ≤ mc) (hsu : su ≤ ms) (h : f_X12_fly_112 M x1 x2 z0 = some e) (g : (sE (fun a => WX RX12 cX12_fly 4 (some .int) ("fly", []) d mc ms X (px_QF Post mc ms) 60 [(0, .ref 73), (1, .int x1), (2, .int a.1), (3, .int a.2.1)] [] sh (a.2.2) L R n cu su) (fun t => WX RX12 cX12_fly 4 (some .int) ("fly", []) d mc ms X (px_QF Post mc ms) 116 [(2, .int t.1)] [] sh (t.2) L R n cu su)) e) : WX RX12 cX12_fly 4 (some .int) ("fly", []) d mc ms X (px_QF Post mc ms) 112 [(0, .ref 73), (1, .int x1), (2, .int x2)] [.int z0] sh M L R n cu su := by
  unfold f_X12_fly_112 at h
  refine wx_istore_n (lv' := [(3, _), (0, _), (1, _), (2, _)]) dX12_fly_112 (by decide) rfl ?_
  refine wx_goto (tgt := 60) dX12_fly_113 (by decide) ?_
  obtain rfl := Option.some.inj h
  replace g := sE_l g
  exact wx_sub g (px_s rfl (px_s rfl (px_s rfl (px_s rfl px_0))))
noncomputable def f_X12_fly_111 (M : px_M) (x1 : Int32) (x2 : Int32) : Option ((Int32 × Int32 × px_M) ⊕ (Int32 × px_M)) :=
  f_X12_fly_112 M x1 x2 0
theorem s_X12_fly_111 {x1 : Int32} {x2 : Int32} {M : px_M} {L : px_L} {R : px_R} {e : ((Int32 × Int32 × px_M) ⊕ (Int32 × px_M))} (hS : SR sh R) (hd : 69 ≤ d) (hcu : cu ≤ mc) (hsu : su ≤ ms) (h : f_X12_fly_111 M x1 x2 = some e) (g : (sE (fun a => WX RX12 cX12_fly 4 (some .int) ("fly", []) d mc ms X (px_QF Post mc ms) 60 [(0, .ref 73), (1, .int x1), (2, .int a.1), (3, .int a.2.1)] [] sh (a.2.2) L R n cu su) (fun t => WX RX12 cX12_fly 4 (some .int) ("fly", []) d mc ms X (px_QF Post mc ms) 116 [(2, .int t.1)] [] sh (t.2) L R n cu su)) e) : WX RX12 cX12_fly 4 (some .int) ("fly", []) d mc ms X (px_QF Post mc ms) 111 [(0, .ref 73), (1, .int x1), (2, .int x2)] [] sh M L R n cu su := by
  unfold f_X12_fly_111 at h
  refine wx_iconst (v := 0) dX12_fly_111 (by decide) ?_
  exact wx_sub (s_X12_fly_112 hS hd hcu hsu h g) (px_s rfl (px_s rfl (px_s rfl px_0)))
noncomputable def f_X12_fly_60 (M : px_M) (x1 : Int32) (x2 : Int32) (x3 : Int32) : Option ((Int32 × Int32 × px_M) ⊕ (Int32 × px_M)) :=
  if x1 ≤ x2 then
    some (.inr (x2, M))
  else
    if x3 = 0 then
      bd1 (f_X12_flyDay M) fun e_70 =>
      if (e_70 73 28) = (-1) then
        f_X12_fly_111 e_70 x1 (x2 + 1)
      else
        bd1 (f_X12_isMet e_70 (e_70 73 28) (e_70 73 25) (e_70 73 26) (e_70 73 24)) fun e_101 =>
        if e_101 = 0 then
          f_X12_fly_111 e_70 x1 (x2 + 1)
        else
          f_X12_fly_112 e_70 x1 (x2 + 1) 1
    else
      some (.inr (x2, M))
theorem s_X12_fly_60b {x1 : Int32} {x2 : Int32} {x3 : Int32} {M : px_M} {L : px_L} {R : px_R} {e : ((Int32 × Int32 × px_M) ⊕ (Int32 × px_M))} (hS : SR sh R) (hd : 69 ≤ d) (hcu : cu ≤ mc) (hsu : su ≤ ms) (h : f_X12_fly_60 M x1 x2 x3 = some e) (g : (sE (fun a => WX RX12 cX12_fly 4 (some .int) ("fly", []) d mc ms X (px_QF Post mc ms) 60 [(0, .ref 73), (1, .int x1), (2, .int a.1), (3, .int a.2.1)] [] sh (a.2.2) L R n cu su) (fun t => WX RX12 cX12_fly 4 (some .int) ("fly", []) d mc ms X (px_QF Post mc ms) 116 [(2, .int t.1)] [] sh (t.2) L R n cu su)) e) : WX RX12 cX12_fly 4 (some .int) ("fly", []) d mc ms X (px_QF Post mc ms) 60 [(0, .ref 73), (1, .int x1), (2, .int x2), (3, .int x3)] [] sh M L R n cu su := by
  unfold f_X12_fly_60 at h
  refine wx_iload_n dX12_fly_60 rfl ?_
  refine wx_iload_n dX12_fly_61 rfl ?_
  refine wx_icmp_ge (tgt := 116) dX12_fly_62 (by decide) (fun c_62 => ?_) (fun c_62 => ?_)
  · replace h := it_t h c_62
    obtain rfl := Option.some.inj h
    replace g := sE_r g
    exact wx_sub g (px_s rfl px_0)
  · replace h := it_f h c_62
    refine wx_iload_n dX12_fly_65 rfl ?_
    refine wx_if_ne (tgt := 116) dX12_fly_66 (by decide) (fun c_66 => ?_) (fun c_66 => ?_)
    · replace h := it_f h c_66
      obtain rfl := Option.some.inj h
      replace g := sE_r g
      exact wx_sub g (px_s rfl px_0)
    · replace h := it_t h c_66
      refine wx_aload_n dX12_fly_69 rfl ?_
      obtain ⟨e_70, k_70, h⟩ := bd1_some h
      refine wx_cVv dX12_fly_70 ml_X12_430 my_X12_flyDay iv_X12_flyDay (sc_73 hS) (by decide) (s_X12_flyDay (d := d - 1) hS (by omega) k_70) rfl (by omega) (by exact Nat.le_of_ble_eq_true rfl) hcu hsu ?_
      refine wx_iinc (lv' := [(2, _), (0, _), (1, _), (3, _)]) dX12_fly_73 rfl (i_1 _) (by decide) rfl ?_
      refine wx_aload_n dX12_fly_76 rfl ?_
      refine wx_getI dX12_fly_77 fl_X12_63 (sc_73 hS) rfl ?_
      refine wx_iconst (v := (-1)) dX12_fly_80 (by decide) ?_
      refine wx_icmp_eq (tgt := 111) dX12_fly_81 (by decide) (fun c_81 => ?_) (fun c_81 => ?_)
      · replace h := it_t h c_81
        exact wx_sub (s_X12_fly_111 hS hd hcu hsu h g) (px_s rfl (px_s rfl (px_s rfl px_0)))
      · replace h := it_f h c_81
        refine wx_aload_n dX12_fly_84 rfl ?_
        refine wx_aload_n dX12_fly_85 rfl ?_
        refine wx_getI dX12_fly_86 fl_X12_63 (sc_73 hS) rfl ?_
        refine wx_aload_n dX12_fly_89 rfl ?_
        refine wx_getI dX12_fly_90 fl_X12_59 (sc_73 hS) rfl ?_
        refine wx_aload_n dX12_fly_93 rfl ?_
        refine wx_getI dX12_fly_94 fl_X12_304 (sc_73 hS) rfl ?_
        refine wx_aload_n dX12_fly_97 rfl ?_
        refine wx_getI dX12_fly_98 fl_X12_307 (sc_73 hS) rfl ?_
        obtain ⟨e_101, k_101, h⟩ := bd1_some h
        refine wx_cVi dX12_fly_101 ml_X12_310 my_X12_isMet iv_X12_isMet (sc_73 hS) (by decide) (s_X12_isMet (d := d - 1) hS (by omega) k_101) rfl (by omega) (by exact Nat.le_of_ble_eq_true rfl) hcu hsu ?_
        refine wx_if_eq (tgt := 111) dX12_fly_104 (by decide) (fun c_104 => ?_) (fun c_104 => ?_)
        · replace h := it_t h c_104
          exact wx_sub (s_X12_fly_111 hS hd hcu hsu h g) (px_s rfl (px_s rfl (px_s rfl px_0)))
        · replace h := it_f h c_104
          refine wx_iconst (v := 1) dX12_fly_107 (by decide) ?_
          refine wx_goto (tgt := 112) dX12_fly_108 (by decide) ?_
          exact wx_sub (s_X12_fly_112 hS hd hcu hsu h g) (px_s rfl (px_s rfl (px_s rfl px_0)))
theorem s_X12_fly_60 {x1 : Int32} {x2 : Int32} {x3 : Int32} {M : px_M} {L : px_L} {R : px_R} {e : (Int32 × px_M)} (hS : SR sh R) (hd : 69 ≤ d) (hcu : cu ≤ mc) (hsu : su ≤ ms) (h : lpf (fun a : Int32 × Int32 × px_M => f_X12_fly_60 a.2.2 x1 a.1 a.2.1) (x2, x3, M) = some e) (g : WX RX12 cX12_fly 4 (some .int) ("fly", []) d mc ms X (px_QF Post mc ms) 116 [(2, .int e.1)] [] sh (e.2) L R n cu su) : WX RX12 cX12_fly 4 (some .int) ("fly", []) d mc ms X (px_QF Post mc ms) 60 [(0, .ref 73), (1, .int x1), (2, .int x2), (3, .int x3)] [] sh M L R n cu su := by
  have key := lpf_wp (P := (fun a => WX RX12 cX12_fly 4 (some .int) ("fly", []) d mc ms X (px_QF Post mc ms) 60 [(0, .ref 73), (1, .int x1), (2, .int a.1), (3, .int a.2.1)] [] sh (a.2.2) L R n cu su)) (G := (fun t => WX RX12 cX12_fly 4 (some .int) ("fly", []) d mc ms X (px_QF Post mc ms) 116 [(2, .int t.1)] [] sh (t.2) L R n cu su)) (fun a r h g => s_X12_fly_60b (x1 := x1) (x2 := a.1) (x3 := a.2.1) (M := a.2.2) (L := L) (R := R) hS hd hcu hsu h g) (a := (x2, x3, M)) h g
  exact key
noncomputable def f_X12_fly_54 (M : px_M) : Option (Int32 × px_M) :=
  some (0, M)
theorem s_X12_fly_54 {M : px_M} {L : px_L} {R : px_R} {e : (Int32 × px_M)} (hS : SR sh R) (hd : 69 ≤ d) (hcu : cu ≤ mc) (hsu : su ≤ ms) (h : f_X12_fly_54 M = some e) (g : Post (some (.int (e.1))) sh (e.2) L R n) : WX RX12 cX12_fly 4 (some .int) ("fly", []) d mc ms X (px_QF Post mc ms) 54 [] [] sh M L R n cu su := by
  unfold f_X12_fly_54 at h
  refine wx_iconst (v := 0) dX12_fly_54 (by decide) ?_
  refine wx_iret dX12_fly_55 hcu hsu ?_
  obtain rfl := Option.some.inj h
  exact g
noncomputable def f_X12_fly_47 (M : px_M) (x1 : Int32) (z0 : Int32) : Option (Int32 × px_M) :=
  bd1 (f_X12_bad M z0 2) fun e_48 =>
  if e_48.1 = 0 then
    bd1 (lpf (fun a : Int32 × Int32 × px_M => f_X12_fly_60 a.2.2 x1 a.1 a.2.1) (0, 0, e_48.2)) fun e_60 =>
    some (e_60.1, e_60.2)
  else
    f_X12_fly_54 e_48.2
theorem s_X12_fly_47 {x1 : Int32} {z0 : Int32} {M : px_M} {L : px_L} {R : px_R} {e : (Int32 × px_M)} (hS : SR sh R) (hd : 69 ≤ d) (hcu : cu ≤ mc) (hsu : su ≤ ms) (h : f_X12_fly_47 M x1 z0 = some e) (g : Post (some (.int (e.1))) sh (e.2) L R n) : WX RX12 cX12_fly 4 (some .int) ("fly", []) d mc ms X (px_QF Post mc ms) 47 [(0, .ref 73), (1, .int x1)] [.int z0, .ref 73] sh M L R n cu su := by
  unfold f_X12_fly_47 at h
  refine wx_iconst (v := 2) dX12_fly_47 (by decide) ?_
  obtain ⟨e_48, k_48, h⟩ := bd1_some h
  refine wx_cVi dX12_fly_48 ml_X12_207 my_X12_bad iv_X12_bad (sc_73 hS) (by decide) (s_X12_bad (d := d - 1) hS (by omega) k_48) rfl (by omega) (by exact Nat.le_of_ble_eq_true rfl) hcu hsu ?_
  refine wx_if_eq (tgt := 56) dX12_fly_51 (by decide) (fun c_51 => ?_) (fun c_51 => ?_)
  · replace h := it_t h c_51
    refine wx_iconst (v := 0) dX12_fly_56 (by decide) ?_
    refine wx_istore_n (lv' := [(2, _), (0, _), (1, _)]) dX12_fly_57 (by decide) rfl ?_
    refine wx_iconst (v := 0) dX12_fly_58 (by decide) ?_
    refine wx_istore_n (lv' := [(3, _), (2, _), (0, _), (1, _)]) dX12_fly_59 (by decide) rfl ?_
    obtain ⟨e_60, k_60, h⟩ := bd1_some h
    refine wx_sub (s_X12_fly_60 hS hd hcu hsu k_60 ?_) (px_s rfl (px_s rfl (px_s rfl (px_s rfl px_0))))
    refine wx_iload_n dX12_fly_116 rfl ?_
    refine wx_iret dX12_fly_117 hcu hsu ?_
    obtain rfl := Option.some.inj h
    exact g
  · replace h := it_f h c_51
    exact wx_sub (s_X12_fly_54 hS hd hcu hsu h g) px_0
noncomputable def f_X12_fly_22 (M : px_M) (x1 : Int32) (z0 : Int32) : Option (Int32 × px_M) :=
  bd1 (f_X12_bad M z0 1) fun e_23 =>
  if e_23.1 = 0 then
    if ((e_23.2 73 24) + x1) ≤ 2000 then
      f_X12_fly_47 e_23.2 x1 0
    else
      f_X12_fly_47 e_23.2 x1 1
  else
    f_X12_fly_54 e_23.2
theorem s_X12_fly_22 {x1 : Int32} {z0 : Int32} {M : px_M} {L : px_L} {R : px_R} {e : (Int32 × px_M)} (hS : SR sh R) (hd : 69 ≤ d) (hcu : cu ≤ mc) (hsu : su ≤ ms) (h : f_X12_fly_22 M x1 z0 = some e) (g : Post (some (.int (e.1))) sh (e.2) L R n) : WX RX12 cX12_fly 4 (some .int) ("fly", []) d mc ms X (px_QF Post mc ms) 22 [(0, .ref 73), (1, .int x1)] [.int z0, .ref 73] sh M L R n cu su := by
  unfold f_X12_fly_22 at h
  refine wx_iconst (v := 1) dX12_fly_22 (by decide) ?_
  obtain ⟨e_23, k_23, h⟩ := bd1_some h
  refine wx_cVi dX12_fly_23 ml_X12_207 my_X12_bad iv_X12_bad (sc_73 hS) (by decide) (s_X12_bad (d := d - 1) hS (by omega) k_23) rfl (by omega) (by exact Nat.le_of_ble_eq_true rfl) hcu hsu ?_
  refine wx_if_ne (tgt := 54) dX12_fly_26 (by decide) (fun c_26 => ?_) (fun c_26 => ?_)
  · replace h := it_f h c_26
    exact wx_sub (s_X12_fly_54 hS hd hcu hsu h g) px_0
  · replace h := it_t h c_26
    refine wx_aload_n dX12_fly_29 rfl ?_
    refine wx_aload_n dX12_fly_30 rfl ?_
    refine wx_getI dX12_fly_31 fl_X12_307 (sc_73 hS) rfl ?_
    refine wx_iload_n dX12_fly_34 rfl ?_
    refine wx_iadd dX12_fly_35 ?_
    refine wx_sipush (v := 2000) dX12_fly_36 (by decide) ?_
    refine wx_icmp_le (tgt := 46) dX12_fly_39 (by decide) (fun c_39 => ?_) (fun c_39 => ?_)
    · replace h := it_t h c_39
      refine wx_iconst (v := 0) dX12_fly_46 (by decide) ?_
      exact wx_sub (s_X12_fly_47 hS hd hcu hsu h g) (px_s rfl (px_s rfl px_0))
    · replace h := it_f h c_39
      refine wx_iconst (v := 1) dX12_fly_42 (by decide) ?_
      refine wx_goto (tgt := 47) dX12_fly_43 (by decide) ?_
      exact wx_sub (s_X12_fly_47 hS hd hcu hsu h g) (px_s rfl (px_s rfl px_0))
noncomputable def f_X12_fly (M : px_M) (p1 : Int32) : Option (Int32 × px_M) :=
  nm (px_u M 73 0 0) fun M_2 =>
  bd1 (f_X12_in p1 0 200) fun e_11 =>
  if e_11 = 0 then
    f_X12_fly_22 M_2 p1 1
  else
    f_X12_fly_22 M_2 p1 0
theorem s_X12_fly {d : Nat} {X : Nat × (Nat → Int32)} {sh : px_Sh} {M : px_M} {L : px_L} {R : px_R} {n : Nat} {p1 : Int32} {e : Int32 × px_M} (hS : SR sh R) (hd : 69 ≤ d) (h : f_X12_fly M p1 = some e) : MX yX12_fly cX12_fly 4 (some .int) d 0 0 X [.ref 73, .int p1] sh M L R n (px_pu (some (.int e.1)) sh e.2 L R n) := by
  refine MX.of (by decide +kernel) (by exact Nat.le_of_ble_eq_true rfl) ?_
  have hcu : 0 ≤ 0 := Nat.zero_le _
  have hsu : 0 ≤ 0 := Nat.zero_le _
  have g : px_pu (some (.int e.1)) sh e.2 L R n (some (.int e.1)) sh e.2 L R n := ⟨rfl, rfl, rfl, rfl, rfl, rfl⟩
  unfold f_X12_fly at h
  refine wx_aload_n dX12_fly_0 rfl ?_
  refine wx_iconst (v := 0) dX12_fly_1 (by decide) ?_
  refine wx_putI dX12_fly_2 fl_X12_179 (sc_73 hS) (Or.inl rfl) rfl ⟨rfl, rfl⟩ ?_
  refine wx_namM (fun M_2 q_2 => ?_)
  replace h := nm_at h q_2
  refine wx_aload_n dX12_fly_5 rfl ?_
  refine wx_iload_n dX12_fly_6 rfl ?_
  refine wx_iconst (v := 0) dX12_fly_7 (by decide) ?_
  refine wx_sipush (v := 200) dX12_fly_8 (by decide) ?_
  obtain ⟨e_11, k_11, h⟩ := bd1_some h
  refine wx_cSi dX12_fly_11 ml_X12_203 my_X12_in sv_X12_in (s_X12_in (d := d - 1) hS (by omega) k_11) rfl (by omega) (by exact Nat.le_of_ble_eq_true rfl) hcu hsu ?_
  refine wx_if_ne (tgt := 21) dX12_fly_14 (by decide) (fun c_14 => ?_) (fun c_14 => ?_)
  · replace h := it_f h c_14
    refine wx_iconst (v := 0) dX12_fly_21 (by decide) ?_
    exact wx_sub (s_X12_fly_22 hS hd hcu hsu h g) (px_s rfl (px_s rfl px_0))
  · replace h := it_t h c_14
    refine wx_iconst (v := 1) dX12_fly_17 (by decide) ?_
    refine wx_goto (tgt := 22) dX12_fly_18 (by decide) ?_
    exact wx_sub (s_X12_fly_22 hS hd hcu hsu h g) (px_s rfl (px_s rfl px_0))
end LIFT
