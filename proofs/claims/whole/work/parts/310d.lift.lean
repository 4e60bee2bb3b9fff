/-! the reference -/
section LIFT
variable {d mc ms : Nat} {X : Nat × (Nat → Int32)} {Post : px_Post} {sh : px_Sh} {n cu su : Nat}
noncomputable def f_X12_wordHere_53 (M : px_M) (x2 : Int32) (z0 : Int32) : Option ((Int32 × Int32) ⊕ (Int32 × Int32)) :=
  some (.inl (z0, (x2 + 1)))
theorem s_X12_wordHere_53 {x2 : Int32} {z0 : Int32} {M : px_M} {L : px_L} {R : px_R} {e : ((Int32 × Int32) ⊕ (Int32 × Int32))} (hS : SR sh R) (hd : 2 ≤ d) (hcu : cu ≤ mc) (hsu : su ≤ ms) (h : f_X12_wordHere_53 M x2 z0 = some e) (g : (sE (fun a => WX RX12 cX12_wordHere 3 (some .int) ("wordHere", []) d mc ms X (px_QF Post mc ms) 8 [(0, .ref 73), (1, .int a.1), (2, .int a.2)] [] sh M L R n cu su) (fun t => WX RX12 cX12_wordHere 3 (some .int) ("wordHere", []) d mc ms X (px_QF Post mc ms) 60 [(1, .int t.1), (2, .int t.2)] [] sh M L R n cu su)) e) : WX RX12 cX12_wordHere 3 (some .int) ("wordHere", []) d mc ms X (px_QF Post mc ms) 53 [(0, .ref 73), (2, .int x2)] [.int z0] sh M L R n cu su := by
  unfold f_X12_wordHere_53 at h
  refine wx_istore_n (lv' := [(1, _), (0, _), (2, _)]) dX12_wordHere_53 (by decide) rfl ?_
  refine wx_iinc (lv' := [(2, _), (1, _), (0, _)]) dX12_wordHere_54 rfl (i_1 _) (by decide) rfl ?_
  refine wx_goto (tgt := 8) dX12_wordHere_57 (by decide) ?_
  obtain rfl := Option.some.inj h
  replace g := sE_l g
  exact wx_sub g (px_s rfl (px_s rfl (px_s rfl px_0)))
noncomputable def f_X12_wordHere_8 (M : px_M) (x1 : Int32) (x2 : Int32) : Option ((Int32 × Int32) ⊕ (Int32 × Int32)) :=
  bd1 (f_X12_byteAt M ((M 73 78) + x2)) fun e_15 =>
  bd1 (f_X12_isSmall e_15) fun e_18 =>
  if e_18 = 0 then
    some (.inr (x1, x2))
  else
    if 5 ≤ x2 then
      f_X12_wordHere_53 M x2 x1
    else
      bd1 (f_X12_byteAt M ((M 73 78) + x2)) fun e_40 =>
      f_X12_wordHere_53 M x2 ((((27 * x1) + e_40) - 97) + 1)
theorem s_X12_wordHere_8b {x1 : Int32} {x2 : Int32} {M : px_M} {L : px_L} {R : px_R} {e : ((Int32 × Int32) ⊕ (Int32 × Int32))} (hS : SR sh R) (hd : 2 ≤ d) (hcu : cu ≤ mc) (hsu : su ≤ ms) (h : f_X12_wordHere_8 M x1 x2 = some e) (g : (sE (fun a => WX RX12 cX12_wordHere 3 (some .int) ("wordHere", []) d mc ms X (px_QF Post mc ms) 8 [(0, .ref 73), (1, .int a.1), (2, .int a.2)] [] sh M L R n cu su) (fun t => WX RX12 cX12_wordHere 3 (some .int) ("wordHere", []) d mc ms X (px_QF Post mc ms) 60 [(1, .int t.1), (2, .int t.2)] [] sh M L R n cu su)) e) : WX RX12 cX12_wordHere 3 (some .int) ("wordHere", []) d mc ms X (px_QF Post mc ms) 8 [(0, .ref 73), (1, .int x1), (2, .int x2)] [] sh M L R n cu su := by
  unfold f_X12_wordHere_8 at h
  refine wx_aload_n dX12_wordHere_8 rfl ?_
  refine wx_aload_n dX12_wordHere_9 rfl ?_
  refine wx_getI dX12_wordHere_10 fl_X12_333 (sc_73 hS) rfl ?_
  refine wx_iload_n dX12_wordHere_13 rfl ?_
  refine wx_iadd dX12_wordHere_14 ?_
  obtain ⟨e_15, k_15, h⟩ := bd1_some h
  refine wx_cVi dX12_wordHere_15 ml_X12_336 my_X12_byteAt iv_X12_byteAt (sc_73 hS) (by decide) (s_X12_byteAt (d := d - 1) hS (by omega) k_15) rfl (by omega) (by exact Nat.le_of_ble_eq_true rfl) hcu hsu ?_
  obtain ⟨e_18, k_18, h⟩ := bd1_some h
  refine wx_cSi dX12_wordHere_18 ml_X12_348 my_X12_isSmall sv_X12_isSmall (s_X12_isSmall (d := d - 1) hS (by omega) k_18) rfl (by omega) (by exact Nat.le_of_ble_eq_true rfl) hcu hsu ?_
  refine wx_if_eq (tgt := 60) dX12_wordHere_21 (by decide) (fun c_21 => ?_) (fun c_21 => ?_)
  · replace h := it_t h c_21
    obtain rfl := Option.some.inj h
    replace g := sE_r g
    exact wx_sub g (px_s rfl (px_s rfl px_0))
  · replace h := it_f h c_21
    refine wx_iload_n dX12_wordHere_24 rfl ?_
    refine wx_iconst (v := 5) dX12_wordHere_25 (by decide) ?_
    refine wx_icmp_ge (tgt := 52) dX12_wordHere_26 (by decide) (fun c_26 => ?_) (fun c_26 => ?_)
    · replace h := it_t h c_26
      refine wx_iload_n dX12_wordHere_52 rfl ?_
      exact wx_sub (s_X12_wordHere_53 hS hd hcu hsu h g) (px_s rfl (px_s rfl px_0))
    · replace h := it_f h c_26
      refine wx_bipush (v := 27) dX12_wordHere_29 (by decide) ?_
      refine wx_iload_n dX12_wordHere_31 rfl ?_
      refine wx_imul dX12_wordHere_32 ?_
      refine wx_aload_n dX12_wordHere_33 rfl ?_
      refine wx_aload_n dX12_wordHere_34 rfl ?_
      refine wx_getI dX12_wordHere_35 fl_X12_333 (sc_73 hS) rfl ?_
      refine wx_iload_n dX12_wordHere_38 rfl ?_
      refine wx_iadd dX12_wordHere_39 ?_
      obtain ⟨e_40, k_40, h⟩ := bd1_some h
      refine wx_cVi dX12_wordHere_40 ml_X12_336 my_X12_byteAt iv_X12_byteAt (sc_73 hS) (by decide) (s_X12_byteAt (d := d - 1) hS (by omega) k_40) rfl (by omega) (by exact Nat.le_of_ble_eq_true rfl) hcu hsu ?_
      refine wx_iadd dX12_wordHere_43 ?_
      refine wx_bipush (v := 97) dX12_wordHere_44 (by decide) ?_
      refine wx_isub dX12_wordHere_46 ?_
      refine wx_iconst (v := 1) dX12_wordHere_47 (by decide) ?_
      refine wx_iadd dX12_wordHere_48 ?_
      refine wx_goto (tgt := 53) dX12_wordHere_49 (by decide) ?_
      exact wx_sub (s_X12_wordHere_53 hS hd hcu hsu h g) (px_s rfl (px_s rfl px_0))
theorem s_X12_wordHere_8 {x1 : Int32} {x2 : Int32} {M : px_M} {L : px_L} {R : px_R} {e : (Int32 × Int32)} (hS : SR sh R) (hd : 2 ≤ d) (hcu : cu ≤ mc) (hsu : su ≤ ms) (h : lpf (fun a : Int32 × Int32 => f_X12_wordHere_8 M a.1 a.2) (x1, x2) = some e) (g : WX RX12 cX12_wordHere 3 (some .int) ("wordHere", []) d mc ms X (px_QF Post mc ms) 60 [(1, .int e.1), (2, .int e.2)] [] sh M L R n cu su) : WX RX12 cX12_wordHere 3 (some .int) ("wordHere", []) d mc ms X (px_QF Post mc ms) 8 [(0, .ref 73), (1, .int x1), (2, .int x2)] [] sh M L R n cu su := by
  have key := lpf_wp (P := (fun a => WX RX12 cX12_wordHere 3 (some .int) ("wordHere", []) d mc ms X (px_QF Post mc ms) 8 [(0, .ref 73), (1, .int a.1), (2, .int a.2)] [] sh M L R n cu su)) (G := (fun t => WX RX12 cX12_wordHere 3 (some .int) ("wordHere", []) d mc ms X (px_QF Post mc ms) 60 [(1, .int t.1), (2, .int t.2)] [] sh M L R n cu su)) (fun a r h g => s_X12_wordHere_8b (x1 := a.1) (x2 := a.2) (M := M) (L := L) (R := R) hS hd hcu hsu h g) (a := (x1, x2)) h g
  exact key
noncomputable def f_X12_wordHere_70 (M : px_M) (z0 : Int32) : Option (Int32 × px_M) :=
  some (z0, M)
theorem s_X12_wordHere_70 {z0 : Int32} {M : px_M} {L : px_L} {R : px_R} {e : (Int32 × px_M)} (hS : SR sh R) (hd : 2 ≤ d) (hcu : cu ≤ mc) (hsu : su ≤ ms) (h : f_X12_wordHere_70 M z0 = some e) (g : Post (some (.int (e.1))) sh (e.2) L R n) : WX RX12 cX12_wordHere 3 (some .int) ("wordHere", []) d mc ms X (px_QF Post mc ms) 70 [] [.int z0] sh M L R n cu su := by
  unfold f_X12_wordHere_70 at h
  refine wx_iret dX12_wordHere_70 hcu hsu ?_
  obtain rfl := Option.some.inj h
  exact g
noncomputable def f_X12_wordHere (M : px_M) : Option (Int32 × px_M) :=
  bd1 (f_X12_blanks M) fun e_1 =>
  bd1 (lpf (fun a : Int32 × Int32 => f_X12_wordHere_8 e_1 a.1 a.2) (0, 0)) fun e_8 =>
  if e_8.2 ≤ 5 then
    f_X12_wordHere_70 e_1 e_8.1
  else
    f_X12_wordHere_70 e_1 (-1)
theorem s_X12_wordHere {d : Nat} {X : Nat × (Nat → Int32)} {sh : px_Sh} {M : px_M} {L : px_L} {R : px_R} {n : Nat} {e : Int32 × px_M} (hS : SR sh R) (hd : 2 ≤ d) (h : f_X12_wordHere M = some e) : MX yX12_wordHere cX12_wordHere 3 (some .int) d 0 0 X [.ref 73] sh M L R n (px_pu (some (.int e.1)) sh e.2 L R n) := by
  refine MX.of (by decide +kernel) (by exact Nat.le_of_ble_eq_true rfl) ?_
  have hcu : 0 ≤ 0 := Nat.zero_le _
  have hsu : 0 ≤ 0 := Nat.zero_le _
  have g : px_pu (some (.int e.1)) sh e.2 L R n (some (.int e.1)) sh e.2 L R n := ⟨rfl, rfl, rfl, rfl, rfl, rfl⟩
  unfold f_X12_wordHere at h
  refine wx_aload_n dX12_wordHere_0 rfl ?_
  obtain ⟨e_1, k_1, h⟩ := bd1_some h
  refine wx_cVv dX12_wordHere_1 ml_X12_345 my_X12_blanks iv_X12_blanks (sc_73 hS) (by decide) (s_X12_blanks (d := d - 1) hS (by omega) k_1) rfl (by omega) (by exact Nat.le_of_ble_eq_true rfl) hcu hsu ?_
  refine wx_iconst (v := 0) dX12_wordHere_4 (by decide) ?_
  refine wx_istore_n (lv' := [(1, _), (0, _)]) dX12_wordHere_5 (by decide) rfl ?_
  refine wx_iconst (v := 0) dX12_wordHere_6 (by decide) ?_
  refine wx_istore_n (lv' := [(2, _), (1, _), (0, _)]) dX12_wordHere_7 (by decide) rfl ?_
  obtain ⟨e_8, k_8, h⟩ := bd1_some h
  refine wx_sub (s_X12_wordHere_8 hS hd hcu hsu k_8 ?_) (px_s rfl (px_s rfl (px_s rfl px_0)))
  refine wx_iload_n dX12_wordHere_60 rfl ?_
  refine wx_iconst (v := 5) dX12_wordHere_61 (by decide) ?_
  refine wx_icmp_le (tgt := 69) dX12_wordHere_62 (by decide) (fun c_62 => ?_) (fun c_62 => ?_)
  · replace h := it_t h c_62
    refine wx_iload_n dX12_wordHere_69 rfl ?_
    exact wx_sub (s_X12_wordHere_70 hS hd hcu hsu h g) px_0
  · replace h := it_f h c_62
    refine wx_iconst (v := (-1)) dX12_wordHere_65 (by decide) ?_
    refine wx_goto (tgt := 70) dX12_wordHere_66 (by decide) ?_
    exact wx_sub (s_X12_wordHere_70 hS hd hcu hsu h g) px_0
noncomputable def f_X12_word_62 (z0 : Int32) : Option (Int32) :=
  some z0
theorem s_X12_word_62 {z0 : Int32} {M : px_M} {L : px_L} {R : px_R} {e : (Int32)} (hS : SR sh R) (hd : 0 ≤ d) (hcu : cu ≤ mc) (hsu : su ≤ ms) (h : f_X12_word_62 z0 = some e) (g : Post (some (.int e)) sh M L R n) : WX RX12 cX12_word 6 (some .int) ("word", []) d mc ms X (px_QF Post mc ms) 62 [] [.int z0] sh M L R n cu su := by
  unfold f_X12_word_62 at h
  refine wx_iret dX12_word_62 hcu hsu ?_
  obtain rfl := Option.some.inj h
  exact g
noncomputable def f_X12_word_42 (x4 : Int32) (z0 : Int32) : Option (Int32) :=
  if x4 = 0 then
    f_X12_word_62 z0
  else
    f_X12_word_62 ((27 * z0) + x4)
theorem s_X12_word_42 {x4 : Int32} {z0 : Int32} {M : px_M} {L : px_L} {R : px_R} {e : (Int32)} (hS : SR sh R) (hd : 0 ≤ d) (hcu : cu ≤ mc) (hsu : su ≤ ms) (h : f_X12_word_42 x4 z0 = some e) (g : Post (some (.int e)) sh M L R n) : WX RX12 cX12_word 6 (some .int) ("word", []) d mc ms X (px_QF Post mc ms) 42 [(4, .int x4)] [.int z0] sh M L R n cu su := by
  unfold f_X12_word_42 at h
  refine wx_istore (lv' := [(5, _), (4, _)]) dX12_word_42 (by decide) rfl ?_
  refine wx_iload dX12_word_44 rfl ?_
  refine wx_if_ne (tgt := 54) dX12_word_46 (by decide) (fun c_46 => ?_) (fun c_46 => ?_)
  · replace h := it_f h c_46
    refine wx_bipush (v := 27) dX12_word_54 (by decide) ?_
    refine wx_iload dX12_word_56 rfl ?_
    refine wx_imul dX12_word_58 ?_
    refine wx_iload dX12_word_59 rfl ?_
    refine wx_iadd dX12_word_61 ?_
    exact wx_sub (s_X12_word_62 hS hd hcu hsu h g) px_0
  · replace h := it_t h c_46
    refine wx_iload dX12_word_49 rfl ?_
    refine wx_goto (tgt := 62) dX12_word_51 (by decide) ?_
    exact wx_sub (s_X12_word_62 hS hd hcu hsu h g) px_0
noncomputable def f_X12_word_24 (x3 : Int32) (x4 : Int32) (z0 : Int32) : Option (Int32) :=
  if x3 = 0 then
    f_X12_word_42 x4 z0
  else
    f_X12_word_42 x4 ((27 * z0) + x3)
theorem s_X12_word_24 {x3 : Int32} {x4 : Int32} {z0 : Int32} {M : px_M} {L : px_L} {R : px_R} {e : (Int32)} (hS : SR sh R) (hd : 0 ≤ d) (hcu : cu ≤ mc) (hsu : su ≤ ms) (h : f_X12_word_24 x3 x4 z0 = some e) (g : Post (some (.int e)) sh M L R n) : WX RX12 cX12_word 6 (some .int) ("word", []) d mc ms X (px_QF Post mc ms) 24 [(3, .int x3), (4, .int x4)] [.int z0] sh M L R n cu su := by
  unfold f_X12_word_24 at h
  refine wx_istore (lv' := [(5, _), (3, _), (4, _)]) dX12_word_24 (by decide) rfl ?_
  refine wx_iload_n dX12_word_26 rfl ?_
  refine wx_if_ne (tgt := 35) dX12_word_27 (by decide) (fun c_27 => ?_) (fun c_27 => ?_)
  · replace h := it_f h c_27
    refine wx_bipush (v := 27) dX12_word_35 (by decide) ?_
    refine wx_iload dX12_word_37 rfl ?_
    refine wx_imul dX12_word_39 ?_
    refine wx_iload_n dX12_word_40 rfl ?_
    refine wx_iadd dX12_word_41 ?_
    exact wx_sub (s_X12_word_42 hS hd hcu hsu h g) (px_s rfl px_0)
  · replace h := it_t h c_27
    refine wx_iload dX12_word_30 rfl ?_
    refine wx_goto (tgt := 42) dX12_word_32 (by decide) ?_
    exact wx_sub (s_X12_word_42 hS hd hcu hsu h g) (px_s rfl px_0)
noncomputable def f_X12_word (p0 : Int32) (p1 : Int32) (p2 : Int32) (p3 : Int32) (p4 : Int32) : Option (Int32) :=
  nm ((27 * p0) + p1) fun v_6 =>
  if p2 = 0 then
    f_X12_word_24 p3 p4 v_6
  else
    f_X12_word_24 p3 p4 ((27 * v_6) + p2)
theorem s_X12_word {d : Nat} {X : Nat × (Nat → Int32)} {sh : px_Sh} {M : px_M} {L : px_L} {R : px_R} {n : Nat} {p0 : Int32} {p1 : Int32} {p2 : Int32} {p3 : Int32} {p4 : Int32} {e : Int32} (hS : SR sh R) (hd : 0 ≤ d) (h : f_X12_word p0 p1 p2 p3 p4 = some e) : MX yX12_word cX12_word 6 (some .int) d 0 0 X [.int p0, .int p1, .int p2, .int p3, .int p4] sh M L R n (px_pu (some (.int e)) sh M L R n) := by
  refine MX.of (by decide +kernel) (by exact Nat.le_of_ble_eq_true rfl) ?_
  have hcu : 0 ≤ 0 := Nat.zero_le _
  have hsu : 0 ≤ 0 := Nat.zero_le _
  have g : px_pu (some (.int e)) sh M L R n (some (.int e)) sh M L R n := ⟨rfl, rfl, rfl, rfl, rfl, rfl⟩
  unfold f_X12_word at h
  refine wx_bipush (v := 27) dX12_word_0 (by decide) ?_
  refine wx_iload_n dX12_word_2 rfl ?_
  refine wx_imul dX12_word_3 ?_
  refine wx_iload_n dX12_word_4 rfl ?_
  refine wx_iadd dX12_word_5 ?_
  refine wx_nami (fun v_6 q_6 => ?_)
  replace h := nm_at h q_6
  refine wx_istore (lv' := [(5, _), (0, _), (1, _), (2, _), (3, _), (4, _)]) dX12_word_6 (by decide) rfl ?_
  refine wx_iload_n dX12_word_8 rfl ?_
  refine wx_if_ne (tgt := 17) dX12_word_9 (by decide) (fun c_9 => ?_) (fun c_9 => ?_)
  · replace h := it_f h c_9
    refine wx_bipush (v := 27) dX12_word_17 (by decide) ?_
    refine wx_iload dX12_word_19 rfl ?_
    refine wx_imul dX12_word_21 ?_
    refine wx_iload_n dX12_word_22 rfl ?_
    refine wx_iadd dX12_word_23 ?_
    exact wx_sub (s_X12_word_24 hS hd hcu hsu h g) (px_s rfl (px_s rfl px_0))
  · replace h := it_t h c_9
    refine wx_iload dX12_word_12 rfl ?_
    refine wx_goto (tgt := 24) dX12_word_14 (by decide) ?_
    exact wx_sub (s_X12_word_24 hS hd hcu hsu h g) (px_s rfl (px_s rfl px_0))
noncomputable def f_X12_wrong_17 (M : px_M) : Option (px_M) :=
  some M
theorem s_X12_wrong_17 {M : px_M} {L : px_L} {R : px_R} {e : (px_M)} (hS : SR sh R) (hd : 0 ≤ d) (hcu : cu ≤ mc) (hsu : su ≤ ms) (h : f_X12_wrong_17 M = some e) (g : Post none sh e L R n) : WX RX12 cX12_wrong 3 none ("wrong", []) d mc ms X (px_QF Post mc ms) 17 [] [] sh M L R n cu su := by
  unfold f_X12_wrong_17 at h
  refine wx_vret dX12_wrong_17 hcu hsu ?_
  obtain rfl := Option.some.inj h
  exact g
noncomputable def f_X12_wrong (M : px_M) (p1 : Int32) (p2 : Int32) : Option (px_M) :=
  if (M 73 81) = 0 then
    nm (px_u M 73 81 p1) fun M_9 =>
    nm (px_u M_9 73 82 p2) fun M_14 =>
    f_X12_wrong_17 M_14
  else
    f_X12_wrong_17 M
theorem s_X12_wrong {d : Nat} {X : Nat × (Nat → Int32)} {sh : px_Sh} {M : px_M} {L : px_L} {R : px_R} {n : Nat} {p1 : Int32} {p2 : Int32} {e : px_M} (hS : SR sh R) (hd : 0 ≤ d) (h : f_X12_wrong M p1 p2 = some e) : MX yX12_wrong cX12_wrong 3 none d 0 0 X [.ref 73, .int p1, .int p2] sh M L R n (px_pu none sh e L R n) := by
  refine MX.of (by decide +kernel) (by exact Nat.le_of_ble_eq_true rfl) ?_
  have hcu : 0 ≤ 0 := Nat.zero_le _
  have hsu : 0 ≤ 0 := Nat.zero_le _
  have g : px_pu none sh e L R n none sh e L R n := ⟨rfl, rfl, rfl, rfl, rfl, rfl⟩
  unfold f_X12_wrong at h
  refine wx_aload_n dX12_wrong_0 rfl ?_
  refine wx_getI dX12_wrong_1 fl_X12_339 (sc_73 hS) rfl ?_
  refine wx_if_ne (tgt := 17) dX12_wrong_4 (by decide) (fun c_4 => ?_) (fun c_4 => ?_)
  · replace h := it_f h c_4
    exact wx_sub (s_X12_wrong_17 hS hd hcu hsu h g) px_0
  · replace h := it_t h c_4
    refine wx_aload_n dX12_wrong_7 rfl ?_
    refine wx_iload_n dX12_wrong_8 rfl ?_
    refine wx_putI dX12_wrong_9 fl_X12_339 (sc_73 hS) (Or.inl rfl) rfl ⟨rfl, rfl⟩ ?_
    refine wx_namM (fun M_9 q_9 => ?_)
    replace h := nm_at h q_9
    refine wx_aload_n dX12_wrong_12 rfl ?_
    refine wx_iload_n dX12_wrong_13 rfl ?_
    refine wx_putI dX12_wrong_14 fl_X12_342 (sc_73 hS) (Or.inl rfl) rfl ⟨rfl, rfl⟩ ?_
    refine wx_namM (fun M_14 q_14 => ?_)
    replace h := nm_at h q_14
    exact wx_sub (s_X12_wrong_17 hS hd hcu hsu h g) px_0
noncomputable def f_X12_skipWord_0 (M : px_M) : Option ((px_M) ⊕ (px_M)) :=
  bd1 (f_X12_byteAt M (M 73 78)) fun e_5 =>
  bd1 (f_X12_isSmall e_5) fun e_8 =>
  if e_8 = 0 then
    some (.inr M)
  else
    nm ((M 73 78) + 1) fun v_21 =>
    nm (px_u M 73 78 v_21) fun M_21 =>
    some (.inl M_21)
theorem s_X12_skipWord_0b {M : px_M} {L : px_L} {R : px_R} {e : ((px_M) ⊕ (px_M))} (hS : SR sh R) (hd : 1 ≤ d) (hcu : cu ≤ mc) (hsu : su ≤ ms) (h : f_X12_skipWord_0 M = some e) (g : (sE (fun a => WX RX12 cX12_skipWord 1 none ("skipWord", []) d mc ms X (px_QF Post mc ms) 0 [(0, .ref 73)] [] sh a L R n cu su) (fun t => WX RX12 cX12_skipWord 1 none ("skipWord", []) d mc ms X (px_QF Post mc ms) 27 [] [] sh t L R n cu su)) e) : WX RX12 cX12_skipWord 1 none ("skipWord", []) d mc ms X (px_QF Post mc ms) 0 [(0, .ref 73)] [] sh M L R n cu su := by
  unfold f_X12_skipWord_0 at h
  refine wx_aload_n dX12_skipWord_0 rfl ?_
  refine wx_aload_n dX12_skipWord_1 rfl ?_
  refine wx_getI dX12_skipWord_2 fl_X12_333 (sc_73 hS) rfl ?_
  obtain ⟨e_5, k_5, h⟩ := bd1_some h
  refine wx_cVi dX12_skipWord_5 ml_X12_336 my_X12_byteAt iv_X12_byteAt (sc_73 hS) (by decide) (s_X12_byteAt (d := d - 1) hS (by omega) k_5) rfl (by omega) (by exact Nat.le_of_ble_eq_true rfl) hcu hsu ?_
  obtain ⟨e_8, k_8, h⟩ := bd1_some h
  refine wx_cSi dX12_skipWord_8 ml_X12_348 my_X12_isSmall sv_X12_isSmall (s_X12_isSmall (d := d - 1) hS (by omega) k_8) rfl (by omega) (by exact Nat.le_of_ble_eq_true rfl) hcu hsu ?_
  refine wx_if_eq (tgt := 27) dX12_skipWord_11 (by decide) (fun c_11 => ?_) (fun c_11 => ?_)
  · replace h := it_t h c_11
    obtain rfl := Option.some.inj h
    replace g := sE_r g
    exact wx_sub g px_0
  · replace h := it_f h c_11
    refine wx_aload_n dX12_skipWord_14 rfl ?_
    refine wx_dup dX12_skipWord_15 rfl ?_
    refine wx_getI dX12_skipWord_16 fl_X12_333 (sc_73 hS) rfl ?_
    refine wx_iconst (v := 1) dX12_skipWord_19 (by decide) ?_
    refine wx_iadd dX12_skipWord_20 ?_
    refine wx_nami (fun v_21 q_21 => ?_)
    replace h := nm_at h q_21
    refine wx_putI dX12_skipWord_21 fl_X12_333 (sc_73 hS) (Or.inl rfl) rfl ⟨rfl, rfl⟩ ?_
    refine wx_namM (fun M_21 q_21 => ?_)
    replace h := nm_at h q_21
    refine wx_goto (tgt := 0) dX12_skipWord_24 (by decide) ?_
    obtain rfl := Option.some.inj h
    replace g := sE_l g
    exact wx_sub g (px_s rfl px_0)
theorem s_X12_skipWord_0 {M : px_M} {L : px_L} {R : px_R} {e : (px_M)} (hS : SR sh R) (hd : 1 ≤ d) (hcu : cu ≤ mc) (hsu : su ≤ ms) (h : lpf (fun a : px_M => f_X12_skipWord_0 a) M = some e) (g : WX RX12 cX12_skipWord 1 none ("skipWord", []) d mc ms X (px_QF Post mc ms) 27 [] [] sh e L R n cu su) : WX RX12 cX12_skipWord 1 none ("skipWord", []) d mc ms X (px_QF Post mc ms) 0 [(0, .ref 73)] [] sh M L R n cu su := by
  have key := lpf_wp (P := (fun a => WX RX12 cX12_skipWord 1 none ("skipWord", []) d mc ms X (px_QF Post mc ms) 0 [(0, .ref 73)] [] sh a L R n cu su)) (G := (fun t => WX RX12 cX12_skipWord 1 none ("skipWord", []) d mc ms X (px_QF Post mc ms) 27 [] [] sh t L R n cu su)) (fun a r h g => s_X12_skipWord_0b (M := a) (L := L) (R := R) hS hd hcu hsu h g) (a := M) h g
  exact key
noncomputable def f_X12_skipWord (M : px_M) : Option (px_M) :=
  bd1 (lpf (fun a : px_M => f_X12_skipWord_0 a) M) fun e_0 =>
  some e_0
theorem s_X12_skipWord {d : Nat} {X : Nat × (Nat → Int32)} {sh : px_Sh} {M : px_M} {L : px_L} {R : px_R} {n : Nat} {e : px_M} (hS : SR sh R) (hd : 1 ≤ d) (h : f_X12_skipWord M = some e) : MX yX12_skipWord cX12_skipWord 1 none d 0 0 X [.ref 73] sh M L R n (px_pu none sh e L R n) := by
  refine MX.of (by decide +kernel) (by exact Nat.le_of_ble_eq_true rfl) ?_
  have hcu : 0 ≤ 0 := Nat.zero_le _
  have hsu : 0 ≤ 0 := Nat.zero_le _
  have g : px_pu none sh e L R n none sh e L R n := ⟨rfl, rfl, rfl, rfl, rfl, rfl⟩
  unfold f_X12_skipWord at h
  obtain ⟨e_0, k_0, h⟩ := bd1_some h
  refine wx_sub (s_X12_skipWord_0 hS hd hcu hsu k_0 ?_) (px_s rfl px_0)
  refine wx_vret dX12_skipWord_27 hcu hsu ?_
  obtain rfl := Option.some.inj h
  exact g
noncomputable def f_X12_opens_18 (M : px_M) (x1 : Int32) : Option (px_M) :=
  nm ((M 73 80) + 1) fun v_25 =>
  nm (px_u M 73 80 v_25) fun M_25 =>
  nm ((M_25 73 78) + x1) fun v_35 =>
  nm (px_u M_25 73 78 v_35) fun M_35 =>
  some M_35
theorem s_X12_opens_18 {x1 : Int32} {M : px_M} {L : px_L} {R : px_R} {e : (px_M)} (hS : SR sh R) (hd : 1 ≤ d) (hcu : cu ≤ mc) (hsu : su ≤ ms) (h : f_X12_opens_18 M x1 = some e) (g : Post none sh e L R n) : WX RX12 cX12_opens 2 none ("opens", []) d mc ms X (px_QF Post mc ms) 18 [(0, .ref 73), (1, .int x1)] [] sh M L R n cu su := by
  unfold f_X12_opens_18 at h
  refine wx_aload_n dX12_opens_18 rfl ?_
  refine wx_dup dX12_opens_19 rfl ?_
  refine wx_getI dX12_opens_20 fl_X12_358 (sc_73 hS) rfl ?_
  refine wx_iconst (v := 1) dX12_opens_23 (by decide) ?_
  refine wx_iadd dX12_opens_24 ?_
  refine wx_nami (fun v_25 q_25 => ?_)
  replace h := nm_at h q_25
  refine wx_putI dX12_opens_25 fl_X12_358 (sc_73 hS) (Or.inl rfl) rfl ⟨rfl, rfl⟩ ?_
  refine wx_namM (fun M_25 q_25 => ?_)
  replace h := nm_at h q_25
  refine wx_aload_n dX12_opens_28 rfl ?_
  refine wx_dup dX12_opens_29 rfl ?_
  refine wx_getI dX12_opens_30 fl_X12_333 (sc_73 hS) rfl ?_
  refine wx_iload_n dX12_opens_33 rfl ?_
  refine wx_iadd dX12_opens_34 ?_
  refine wx_nami (fun v_35 q_35 => ?_)
  replace h := nm_at h q_35
  refine wx_putI dX12_opens_35 fl_X12_333 (sc_73 hS) (Or.inl rfl) rfl ⟨rfl, rfl⟩ ?_
  refine wx_namM (fun M_35 q_35 => ?_)
  replace h := nm_at h q_35
  refine wx_vret dX12_opens_38 hcu hsu ?_
  obtain rfl := Option.some.inj h
  exact g
noncomputable def f_X12_opens (M : px_M) (p1 : Int32) : Option (px_M) :=
  if (M 73 80) = 6 then
    bd1 (f_X12_wrong M 3 (M 73 78)) fun e_15 =>
    f_X12_opens_18 e_15 p1
  else
    f_X12_opens_18 M p1
theorem s_X12_opens {d : Nat} {X : Nat × (Nat → Int32)} {sh : px_Sh} {M : px_M} {L : px_L} {R : px_R} {n : Nat} {p1 : Int32} {e : px_M} (hS : SR sh R) (hd : 1 ≤ d) (h : f_X12_opens M p1 = some e) : MX yX12_opens cX12_opens 2 none d 0 0 X [.ref 73, .int p1] sh M L R n (px_pu none sh e L R n) := by
  refine MX.of (by decide +kernel) (by exact Nat.le_of_ble_eq_true rfl) ?_
  have hcu : 0 ≤ 0 := Nat.zero_le _
  have hsu : 0 ≤ 0 := Nat.zero_le _
  have g : px_pu none sh e L R n none sh e L R n := ⟨rfl, rfl, rfl, rfl, rfl, rfl⟩
  unfold f_X12_opens at h
  refine wx_aload_n dX12_opens_0 rfl ?_
  refine wx_getI dX12_opens_1 fl_X12_358 (sc_73 hS) rfl ?_
  refine wx_bipush (v := 6) dX12_opens_4 (by decide) ?_
  refine wx_icmp_ne (tgt := 18) dX12_opens_6 (by decide) (fun c_6 => ?_) (fun c_6 => ?_)
  · replace h := it_f h c_6
    exact wx_sub (s_X12_opens_18 hS hd hcu hsu h g) (px_s rfl (px_s rfl px_0))
  · replace h := it_t h c_6
    refine wx_aload_n dX12_opens_9 rfl ?_
    refine wx_iconst (v := 3) dX12_opens_10 (by decide) ?_
    refine wx_aload_n dX12_opens_11 rfl ?_
    refine wx_getI dX12_opens_12 fl_X12_333 (sc_73 hS) rfl ?_
    obtain ⟨e_15, k_15, h⟩ := bd1_some h
    refine wx_cVv dX12_opens_15 ml_X12_351 my_X12_wrong iv_X12_wrong (sc_73 hS) (by decide) (s_X12_wrong (d := d - 1) hS (by omega) k_15) rfl (by omega) (by exact Nat.le_of_ble_eq_true rfl) hcu hsu ?_
    exact wx_sub (s_X12_opens_18 hS hd hcu hsu h g) (px_s rfl (px_s rfl px_0))
noncomputable def f_X12_sign_38 (M : px_M) : Option (px_M) :=
  some M
theorem s_X12_sign_38 {M : px_M} {L : px_L} {R : px_R} {e : (px_M)} (hS : SR sh R) (hd : 2 ≤ d) (hcu : cu ≤ mc) (hsu : su ≤ ms) (h : f_X12_sign_38 M = some e) (g : Post none sh e L R n) : WX RX12 cX12_sign 2 none ("sign", []) d mc ms X (px_QF Post mc ms) 38 [] [] sh M L R n cu su := by
  unfold f_X12_sign_38 at h
  refine wx_vret dX12_sign_38 hcu hsu ?_
  obtain rfl := Option.some.inj h
  exact g
noncomputable def f_X12_sign (M : px_M) (p1 : Int32) : Option (px_M) :=
  bd1 (f_X12_blanks M) fun e_1 =>
  bd1 (f_X12_byteAt e_1 (e_1 73 78)) fun e_9 =>
  if e_9 = p1 then
    nm ((e_1 73 78) + 1) fun v_23 =>
    nm (px_u e_1 73 78 v_23) fun M_23 =>
    f_X12_sign_38 M_23
  else
    bd1 (f_X12_wrong e_1 1 (e_1 73 78)) fun e_35 =>
    f_X12_sign_38 e_35
theorem s_X12_sign {d : Nat} {X : Nat × (Nat → Int32)} {sh : px_Sh} {M : px_M} {L : px_L} {R : px_R} {n : Nat} {p1 : Int32} {e : px_M} (hS : SR sh R) (hd : 2 ≤ d) (h : f_X12_sign M p1 = some e) : MX yX12_sign cX12_sign 2 none d 0 0 X [.ref 73, .int p1] sh M L R n (px_pu none sh e L R n) := by
  refine MX.of (by decide +kernel) (by exact Nat.le_of_ble_eq_true rfl) ?_
  have hcu : 0 ≤ 0 := Nat.zero_le _
  have hsu : 0 ≤ 0 := Nat.zero_le _
  have g : px_pu none sh e L R n none sh e L R n := ⟨rfl, rfl, rfl, rfl, rfl, rfl⟩
  unfold f_X12_sign at h
  refine wx_aload_n dX12_sign_0 rfl ?_
  obtain ⟨e_1, k_1, h⟩ := bd1_some h
  refine wx_cVv dX12_sign_1 ml_X12_345 my_X12_blanks iv_X12_blanks (sc_73 hS) (by decide) (s_X12_blanks (d := d - 1) hS (by omega) k_1) rfl (by omega) (by exact Nat.le_of_ble_eq_true rfl) hcu hsu ?_
  refine wx_aload_n dX12_sign_4 rfl ?_
  refine wx_aload_n dX12_sign_5 rfl ?_
  refine wx_getI dX12_sign_6 fl_X12_333 (sc_73 hS) rfl ?_
  obtain ⟨e_9, k_9, h⟩ := bd1_some h
  refine wx_cVi dX12_sign_9 ml_X12_336 my_X12_byteAt iv_X12_byteAt (sc_73 hS) (by decide) (s_X12_byteAt (d := d - 1) hS (by omega) k_9) rfl (by omega) (by exact Nat.le_of_ble_eq_true rfl) hcu hsu ?_
  refine wx_iload_n dX12_sign_12 rfl ?_
  refine wx_icmp_ne (tgt := 29) dX12_sign_13 (by decide) (fun c_13 => ?_) (fun c_13 => ?_)
  · replace h := it_f h c_13
    refine wx_aload_n dX12_sign_29 rfl ?_
    refine wx_iconst (v := 1) dX12_sign_30 (by decide) ?_
    refine wx_aload_n dX12_sign_31 rfl ?_
    refine wx_getI dX12_sign_32 fl_X12_333 (sc_73 hS) rfl ?_
    obtain ⟨e_35, k_35, h⟩ := bd1_some h
    refine wx_cVv dX12_sign_35 ml_X12_351 my_X12_wrong iv_X12_wrong (sc_73 hS) (by decide) (s_X12_wrong (d := d - 1) hS (by omega) k_35) rfl (by omega) (by exact Nat.le_of_ble_eq_true rfl) hcu hsu ?_
    exact wx_sub (s_X12_sign_38 hS hd hcu hsu h g) px_0
  · replace h := it_t h c_13
    refine wx_aload_n dX12_sign_16 rfl ?_
    refine wx_dup dX12_sign_17 rfl ?_
    refine wx_getI dX12_sign_18 fl_X12_333 (sc_73 hS) rfl ?_
    refine wx_iconst (v := 1) dX12_sign_21 (by decide) ?_
    refine wx_iadd dX12_sign_22 ?_
    refine wx_nami (fun v_23 q_23 => ?_)
    replace h := nm_at h q_23
    refine wx_putI dX12_sign_23 fl_X12_333 (sc_73 hS) (Or.inl rfl) rfl ⟨rfl, rfl⟩ ?_
    refine wx_namM (fun M_23 q_23 => ?_)
    replace h := nm_at h q_23
    refine wx_goto (tgt := 38) dX12_sign_26 (by decide) ?_
    exact wx_sub (s_X12_sign_38 hS hd hcu hsu h g) px_0
noncomputable def f_X12_isDigit_17 (z0 : Int32) : Option (Int32) :=
  ok (zb z0) <|
  some z0
theorem s_X12_isDigit_17 {z0 : Int32} {M : px_M} {L : px_L} {R : px_R} {e : (Int32)} (hS : SR sh R) (hd : 0 ≤ d) (hcu : cu ≤ mc) (hsu : su ≤ ms) (h : f_X12_isDigit_17 z0 = some e) (g : Post (some (.int e)) sh M L R n) : WX RX12 cX12_isDigit 1 (some .boolean) ("isDigit", []) d mc ms X (px_QF Post mc ms) 17 [] [.int z0] sh M L R n cu su := by
  unfold f_X12_isDigit_17 at h
  obtain ⟨w_17, h⟩ := ok_some h
  refine wx_zret dX12_isDigit_17 (zb_n w_17) hcu hsu ?_
  obtain rfl := Option.some.inj h
  exact g
noncomputable def f_X12_isDigit_16 : Option (Int32) :=
  f_X12_isDigit_17 0
theorem s_X12_isDigit_16 {M : px_M} {L : px_L} {R : px_R} {e : (Int32)} (hS : SR sh R) (hd : 0 ≤ d) (hcu : cu ≤ mc) (hsu : su ≤ ms) (h : f_X12_isDigit_16 = some e) (g : Post (some (.int e)) sh M L R n) : WX RX12 cX12_isDigit 1 (some .boolean) ("isDigit", []) d mc ms X (px_QF Post mc ms) 16 [] [] sh M L R n cu su := by
  unfold f_X12_isDigit_16 at h
  refine wx_iconst (v := 0) dX12_isDigit_16 (by decide) ?_
  exact wx_sub (s_X12_isDigit_17 hS hd hcu hsu h g) px_0
noncomputable def f_X12_isDigit (p0 : Int32) : Option (Int32) :=
  if p0 < 48 then
    f_X12_isDigit_16
  else
    if 57 < p0 then
      f_X12_isDigit_16
    else
      f_X12_isDigit_17 1
theorem s_X12_isDigit {d : Nat} {X : Nat × (Nat → Int32)} {sh : px_Sh} {M : px_M} {L : px_L} {R : px_R} {n : Nat} {p0 : Int32} {e : Int32} (hS : SR sh R) (hd : 0 ≤ d) (h : f_X12_isDigit p0 = some e) : MX yX12_isDigit cX12_isDigit 1 (some .boolean) d 0 0 X [.int p0] sh M L R n (px_pu (some (.int e)) sh M L R n) := by
  refine MX.of (by decide +kernel) (by exact Nat.le_of_ble_eq_true rfl) ?_
  have hcu : 0 ≤ 0 := Nat.zero_le _
  have hsu : 0 ≤ 0 := Nat.zero_le _
  have g : px_pu (some (.int e)) sh M L R n (some (.int e)) sh M L R n := ⟨rfl, rfl, rfl, rfl, rfl, rfl⟩
  unfold f_X12_isDigit at h
  refine wx_iload_n dX12_isDigit_0 rfl ?_
  refine wx_bipush (v := 48) dX12_isDigit_1 (by decide) ?_
  refine wx_icmp_lt (tgt := 16) dX12_isDigit_3 (by decide) (fun c_3 => ?_) (fun c_3 => ?_)
  · replace h := it_t h c_3
    exact wx_sub (s_X12_isDigit_16 hS hd hcu hsu h g) px_0
  · replace h := it_f h c_3
    refine wx_iload_n dX12_isDigit_6 rfl ?_
    refine wx_bipush (v := 57) dX12_isDigit_7 (by decide) ?_
    refine wx_icmp_gt (tgt := 16) dX12_isDigit_9 (by decide) (fun c_9 => ?_) (fun c_9 => ?_)
    · replace h := it_t h c_9
      exact wx_sub (s_X12_isDigit_16 hS hd hcu hsu h g) px_0
    · replace h := it_f h c_9
      refine wx_iconst (v := 1) dX12_isDigit_12 (by decide) ?_
      refine wx_goto (tgt := 17) dX12_isDigit_13 (by decide) ?_
      exact wx_sub (s_X12_isDigit_17 hS hd hcu hsu h g) px_0
noncomputable def f_X12_number_79 (M : px_M) (x1 : Int32) (z0 : Int32) : Option ((Int32 × px_M) ⊕ (Int32 × px_M)) :=
  nm ((M 73 78) + 1) fun v_87 =>
  nm (px_u M 73 78 v_87) fun M_87 =>
  some (.inl (z0, M_87))
theorem s_X12_number_79 {x1 : Int32} {z0 : Int32} {M : px_M} {L : px_L} {R : px_R} {e : ((Int32 × px_M) ⊕ (Int32 × px_M))} (hS : SR sh R) (hd : 2 ≤ d) (hcu : cu ≤ mc) (hsu : su ≤ ms) (h : f_X12_number_79 M x1 z0 = some e) (g : (sE (fun a => WX RX12 cX12_number 3 (some .int) ("number", []) d mc ms X (px_QF Post mc ms) 34 [(0, .ref 73), (1, .int x1), (2, .int a.1)] [] sh (a.2) L R n cu su) (fun t => WX RX12 cX12_number 3 (some .int) ("number", []) d mc ms X (px_QF Post mc ms) 93 [(0, .ref 73), (1, .int x1), (2, .int t.1)] [] sh (t.2) L R n cu su)) e) : WX RX12 cX12_number 3 (some .int) ("number", []) d mc ms X (px_QF Post mc ms) 79 [(0, .ref 73), (1, .int x1)] [.int z0] sh M L R n cu su := by
  unfold f_X12_number_79 at h
  refine wx_istore_n (lv' := [(2, _), (0, _), (1, _)]) dX12_number_79 (by decide) rfl ?_
  refine wx_aload_n dX12_number_80 rfl ?_
  refine wx_dup dX12_number_81 rfl ?_
  refine wx_getI dX12_number_82 fl_X12_333 (sc_73 hS) rfl ?_
  refine wx_iconst (v := 1) dX12_number_85 (by decide) ?_
  refine wx_iadd dX12_number_86 ?_
  refine wx_nami (fun v_87 q_87 => ?_)
  replace h := nm_at h q_87
  refine wx_putI dX12_number_87 fl_X12_333 (sc_73 hS) (Or.inl rfl) rfl ⟨rfl, rfl⟩ ?_
  refine wx_namM (fun M_87 q_87 => ?_)
  replace h := nm_at h q_87
  refine wx_goto (tgt := 34) dX12_number_90 (by decide) ?_
  obtain rfl := Option.some.inj h
  replace g := sE_l g
  exact wx_sub g (px_s rfl (px_s rfl (px_s rfl px_0)))
noncomputable def f_X12_number_34 (M : px_M) (x1 : Int32) (x2 : Int32) : Option ((Int32 × px_M) ⊕ (Int32 × px_M)) :=
  bd1 (f_X12_byteAt M (M 73 78)) fun e_39 =>
  bd1 (f_X12_isDigit e_39) fun e_42 =>
  if e_42 = 0 then
    some (.inr (x2, M))
  else
    bd1 (f_X12_byteAt M (M 73 78)) fun e_57 =>
    nm (((10 * x2) + e_57) - 48) fun v_64 =>
    if v_64 ≤ 100000 then
      f_X12_number_79 M x1 v_64
    else
      f_X12_number_79 M x1 100000
theorem s_X12_number_34b {x1 : Int32} {x2 : Int32} {M : px_M} {L : px_L} {R : px_R} {e : ((Int32 × px_M) ⊕ (Int32 × px_M))} (hS : SR sh R) (hd : 2 ≤ d) (hcu : cu ≤ mc) (hsu : su ≤ ms) (h : f_X12_number_34 M x1 x2 = some e) (g : (sE (fun a => WX RX12 cX12_number 3 (some .int) ("number", []) d mc ms X (px_QF Post mc ms) 34 [(0, .ref 73), (1, .int x1), (2, .int a.1)] [] sh (a.2) L R n cu su) (fun t => WX RX12 cX12_number 3 (some .int) ("number", []) d mc ms X (px_QF Post mc ms) 93 [(0, .ref 73), (1, .int x1), (2, .int t.1)] [] sh (t.2) L R n cu su)) e) : WX RX12 cX12_number 3 (some .int) ("number", []) d mc ms X (px_QF Post mc ms) 34 [(0, .ref 73), (1, .int x1), (2, .int x2)] [] sh M L R n cu su := by
  unfold f_X12_number_34 at h
  refine wx_aload_n dX12_number_34 rfl ?_
  refine wx_aload_n dX12_number_35 rfl ?_
  refine wx_getI dX12_number_36 fl_X12_333 (sc_73 hS) rfl ?_
  obtain ⟨e_39, k_39, h⟩ := bd1_some h
  refine wx_cVi dX12_number_39 ml_X12_336 my_X12_byteAt iv_X12_byteAt (sc_73 hS) (by decide) (s_X12_byteAt (d := d - 1) hS (by omega) k_39) rfl (by omega) (by exact Nat.le_of_ble_eq_true rfl) hcu hsu ?_
  obtain ⟨e_42, k_42, h⟩ := bd1_some h
  refine wx_cSi dX12_number_42 ml_X12_354 my_X12_isDigit sv_X12_isDigit (s_X12_isDigit (d := d - 1) hS (by omega) k_42) rfl (by omega) (by exact Nat.le_of_ble_eq_true rfl) hcu hsu ?_
  refine wx_if_eq (tgt := 93) dX12_number_45 (by decide) (fun c_45 => ?_) (fun c_45 => ?_)
  · replace h := it_t h c_45
    obtain rfl := Option.some.inj h
    replace g := sE_r g
    exact wx_sub g (px_s rfl (px_s rfl (px_s rfl px_0)))
  · replace h := it_f h c_45
    refine wx_bipush (v := 10) dX12_number_48 (by decide) ?_
    refine wx_iload_n dX12_number_50 rfl ?_
    refine wx_imul dX12_number_51 ?_
    refine wx_aload_n dX12_number_52 rfl ?_
    refine wx_aload_n dX12_number_53 rfl ?_
    refine wx_getI dX12_number_54 fl_X12_333 (sc_73 hS) rfl ?_
    obtain ⟨e_57, k_57, h⟩ := bd1_some h
    refine wx_cVi dX12_number_57 ml_X12_336 my_X12_byteAt iv_X12_byteAt (sc_73 hS) (by decide) (s_X12_byteAt (d := d - 1) hS (by omega) k_57) rfl (by omega) (by exact Nat.le_of_ble_eq_true rfl) hcu hsu ?_
    refine wx_iadd dX12_number_60 ?_
    refine wx_bipush (v := 48) dX12_number_61 (by decide) ?_
    refine wx_isub dX12_number_63 ?_
    refine wx_nami (fun v_64 q_64 => ?_)
    replace h := nm_at h q_64
    refine wx_istore_n (lv' := [(2, _), (0, _), (1, _)]) dX12_number_64 (by decide) rfl ?_
    refine wx_iload_n dX12_number_65 rfl ?_
    refine wx_ldcw dX12_number_66 ki_X12_357 ?_
    refine wx_icmp_le (tgt := 78) dX12_number_69 (by decide) (fun c_69 => ?_) (fun c_69 => ?_)
    · replace h := it_t h c_69
      refine wx_iload_n dX12_number_78 rfl ?_
      exact wx_sub (s_X12_number_79 hS hd hcu hsu h g) (px_s rfl (px_s rfl px_0))
    · replace h := it_f h c_69
      refine wx_ldcw dX12_number_72 ki_X12_357 ?_
      refine wx_goto (tgt := 79) dX12_number_75 (by decide) ?_
      exact wx_sub (s_X12_number_79 hS hd hcu hsu h g) (px_s rfl (px_s rfl px_0))
theorem s_X12_number_34 {x1 : Int32} {x2 : Int32} {M : px_M} {L : px_L} {R : px_R} {e : (Int32 × px_M)} (hS : SR sh R) (hd : 2 ≤ d) (hcu : cu ≤ mc) (hsu : su ≤ ms) (h : lpf (fun a : Int32 × px_M => f_X12_number_34 a.2 x1 a.1) (x2, M) = some e) (g : WX RX12 cX12_number 3 (some .int) ("number", []) d mc ms X (px_QF Post mc ms) 93 [(0, .ref 73), (1, .int x1), (2, .int e.1)] [] sh (e.2) L R n cu su) : WX RX12 cX12_number 3 (some .int) ("number", []) d mc ms X (px_QF Post mc ms) 34 [(0, .ref 73), (1, .int x1), (2, .int x2)] [] sh M L R n cu su := by
  have key := lpf_wp (P := (fun a => WX RX12 cX12_number 3 (some .int) ("number", []) d mc ms X (px_QF Post mc ms) 34 [(0, .ref 73), (1, .int x1), (2, .int a.1)] [] sh (a.2) L R n cu su)) (G := (fun t => WX RX12 cX12_number 3 (some .int) ("number", []) d mc ms X (px_QF Post mc ms) 93 [(0, .ref 73), (1, .int x1), (2, .int t.1)] [] sh (t.2) L R n cu su)) (fun a r h g => s_X12_number_34b (x1 := x1) (x2 := a.1) (M := a.2) (L := L) (R := R) hS hd hcu hsu h g) (a := (x2, M)) h g
  exact key
noncomputable def f_X12_number_106 (M : px_M) (x2 : Int32) : Option (Int32 × px_M) :=
  some (x2, M)
theorem s_X12_number_106 {x2 : Int32} {M : px_M} {L : px_L} {R : px_R} {e : (Int32 × px_M)} (hS : SR sh R) (hd : 2 ≤ d) (hcu : cu ≤ mc) (hsu : su ≤ ms) (h : f_X12_number_106 M x2 = some e) (g : Post (some (.int (e.1))) sh (e.2) L R n) : WX RX12 cX12_number 3 (some .int) ("number", []) d mc ms X (px_QF Post mc ms) 106 [(2, .int x2)] [] sh M L R n cu su := by
  unfold f_X12_number_106 at h
  refine wx_iload_n dX12_number_106 rfl ?_
  refine wx_iret dX12_number_107 hcu hsu ?_
  obtain rfl := Option.some.inj h
  exact g
noncomputable def f_X12_number_34w (M : px_M) (x1 : Int32) (x2 : Int32) : Option (Int32 × px_M) :=
  bd1 (lpf (fun a : Int32 × px_M => f_X12_number_34 a.2 x1 a.1) (x2, M)) fun e_34 =>
  if e_34.1 ≤ 9999 then
    f_X12_number_106 e_34.2 e_34.1
  else
    bd1 (f_X12_wrong e_34.2 2 x1) fun e_103 =>
    f_X12_number_106 e_103 e_34.1
theorem s_X12_number_34w {x1 : Int32} {x2 : Int32} {M : px_M} {L : px_L} {R : px_R} {e : (Int32 × px_M)} (hS : SR sh R) (hd : 2 ≤ d) (hcu : cu ≤ mc) (hsu : su ≤ ms) (h : f_X12_number_34w M x1 x2 = some e) (g : Post (some (.int (e.1))) sh (e.2) L R n) : WX RX12 cX12_number 3 (some .int) ("number", []) d mc ms X (px_QF Post mc ms) 34 [(0, .ref 73), (1, .int x1), (2, .int x2)] [] sh M L R n cu su := by
  unfold f_X12_number_34w at h
  obtain ⟨e_34, k_34, h⟩ := bd1_some h
  refine wx_sub (s_X12_number_34 hS hd hcu hsu k_34 ?_) (px_s rfl (px_s rfl (px_s rfl px_0)))
  refine wx_iload_n dX12_number_93 rfl ?_
  refine wx_sipush (v := 9999) dX12_number_94 (by decide) ?_
  refine wx_icmp_le (tgt := 106) dX12_number_97 (by decide) (fun c_97 => ?_) (fun c_97 => ?_)
  · replace h := it_t h c_97
    exact wx_sub (s_X12_number_106 hS hd hcu hsu h g) (px_s rfl px_0)
  · replace h := it_f h c_97
    refine wx_aload_n dX12_number_100 rfl ?_
    refine wx_iconst (v := 2) dX12_number_101 (by decide) ?_
    refine wx_iload_n dX12_number_102 rfl ?_
    obtain ⟨e_103, k_103, h⟩ := bd1_some h
    refine wx_cVv dX12_number_103 ml_X12_351 my_X12_wrong iv_X12_wrong (sc_73 hS) (by decide) (s_X12_wrong (d := d - 1) hS (by omega) k_103) rfl (by omega) (by exact Nat.le_of_ble_eq_true rfl) hcu hsu ?_
    exact wx_sub (s_X12_number_106 hS hd hcu hsu h g) (px_s rfl px_0)
noncomputable def f_X12_number (M : px_M) : Option (Int32 × px_M) :=
  bd1 (f_X12_blanks M) fun e_1 =>
  nm (e_1 73 78) fun v_8 =>
  bd1 (f_X12_byteAt e_1 (e_1 73 78)) fun e_16 =>
  bd1 (f_X12_isDigit e_16) fun e_19 =>
  if e_19 = 0 then
    bd1 (f_X12_wrong e_1 1 (e_1 73 78)) fun e_31 =>
    f_X12_number_34w e_31 v_8 0
  else
    f_X12_number_34w e_1 v_8 0
theorem s_X12_number {d : Nat} {X : Nat × (Nat → Int32)} {sh : px_Sh} {M : px_M} {L : px_L} {R : px_R} {n : Nat} {e : Int32 × px_M} (hS : SR sh R) (hd : 2 ≤ d) (h : f_X12_number M = some e) : MX yX12_number cX12_number 3 (some .int) d 0 0 X [.ref 73] sh M L R n (px_pu (some (.int e.1)) sh e.2 L R n) := by
  refine MX.of (by decide +kernel) (by exact Nat.le_of_ble_eq_true rfl) ?_
  have hcu : 0 ≤ 0 := Nat.zero_le _
  have hsu : 0 ≤ 0 := Nat.zero_le _
  have g : px_pu (some (.int e.1)) sh e.2 L R n (some (.int e.1)) sh e.2 L R n := ⟨rfl, rfl, rfl, rfl, rfl, rfl⟩
  unfold f_X12_number at h
  refine wx_aload_n dX12_number_0 rfl ?_
  obtain ⟨e_1, k_1, h⟩ := bd1_some h
  refine wx_cVv dX12_number_1 ml_X12_345 my_X12_blanks iv_X12_blanks (sc_73 hS) (by decide) (s_X12_blanks (d := d - 1) hS (by omega) k_1) rfl (by omega) (by exact Nat.le_of_ble_eq_true rfl) hcu hsu ?_
  refine wx_aload_n dX12_number_4 rfl ?_
  refine wx_getI dX12_number_5 fl_X12_333 (sc_73 hS) rfl ?_
  refine wx_nami (fun v_8 q_8 => ?_)
  replace h := nm_at h q_8
  refine wx_istore_n (lv' := [(1, _), (0, _)]) dX12_number_8 (by decide) rfl ?_
  refine wx_iconst (v := 0) dX12_number_9 (by decide) ?_
  refine wx_istore_n (lv' := [(2, _), (1, _), (0, _)]) dX12_number_10 (by decide) rfl ?_
  refine wx_aload_n dX12_number_11 rfl ?_
  refine wx_aload_n dX12_number_12 rfl ?_
  refine wx_getI dX12_number_13 fl_X12_333 (sc_73 hS) rfl ?_
  obtain ⟨e_16, k_16, h⟩ := bd1_some h
  refine wx_cVi dX12_number_16 ml_X12_336 my_X12_byteAt iv_X12_byteAt (sc_73 hS) (by decide) (s_X12_byteAt (d := d - 1) hS (by omega) k_16) rfl (by omega) (by exact Nat.le_of_ble_eq_true rfl) hcu hsu ?_
  obtain ⟨e_19, k_19, h⟩ := bd1_some h
  refine wx_cSi dX12_number_19 ml_X12_354 my_X12_isDigit sv_X12_isDigit (s_X12_isDigit (d := d - 1) hS (by omega) k_19) rfl (by omega) (by exact Nat.le_of_ble_eq_true rfl) hcu hsu ?_
  refine wx_if_ne (tgt := 34) dX12_number_22 (by decide) (fun c_22 => ?_) (fun c_22 => ?_)
  · replace h := it_f h c_22
    exact wx_sub (s_X12_number_34w hS hd hcu hsu h g) (px_s rfl (px_s rfl (px_s rfl px_0)))
  · replace h := it_t h c_22
    refine wx_aload_n dX12_number_25 rfl ?_
    refine wx_iconst (v := 1) dX12_number_26 (by decide) ?_
    refine wx_aload_n dX12_number_27 rfl ?_
    refine wx_getI dX12_number_28 fl_X12_333 (sc_73 hS) rfl ?_
    obtain ⟨e_31, k_31, h⟩ := bd1_some h
    refine wx_cVv dX12_number_31 ml_X12_351 my_X12_wrong iv_X12_wrong (sc_73 hS) (by decide) (s_X12_wrong (d := d - 1) hS (by omega) k_31) rfl (by omega) (by exact Nat.le_of_ble_eq_true rfl) hcu hsu ?_
    exact wx_sub (s_X12_number_34w hS hd hcu hsu h g) (px_s rfl (px_s rfl (px_s rfl px_0)))
noncomputable def f_X12_nameHere_125 (M : px_M) (z0 : Int32) : Option (Int32 × px_M) :=
  some (z0, M)
theorem s_X12_nameHere_125 {z0 : Int32} {M : px_M} {L : px_L} {R : px_R} {e : (Int32 × px_M)} (hS : SR sh R) (hd : 3 ≤ d) (hcu : cu ≤ mc) (hsu : su ≤ ms) (h : f_X12_nameHere_125 M z0 = some e) (g : Post (some (.int (e.1))) sh (e.2) L R n) : WX RX12 cX12_nameHere 2 (some .int) ("nameHere", []) d mc ms X (px_QF Post mc ms) 125 [] [.int z0] sh M L R n cu su := by
  unfold f_X12_nameHere_125 at h
  refine wx_iret dX12_nameHere_125 hcu hsu ?_
  obtain rfl := Option.some.inj h
  exact g
noncomputable def f_X12_nameHere (M : px_M) : Option (Int32 × px_M) :=
  bd1 (f_X12_wordHere M) fun e_1 =>
  bd1 (f_X12_word 18 8 15 0 0) fun e_14 =>
  if e_1.1 = e_14 then
    some (0, e_1.2)
  else
    bd1 (f_X12_word 1 14 7 12 5) fun e_31 =>
    if e_1.1 = e_31 then
      some (1, e_1.2)
    else
      bd1 (f_X12_word 4 1 25 0 0) fun e_46 =>
      if e_1.1 = e_46 then
        some (2, e_1.2)
      else
        bd1 (f_X12_word 6 1 18 0 0) fun e_62 =>
        if e_1.1 = e_62 then
          some (3, e_1.2)
        else
          bd1 (f_X12_word 12 5 1 4 0) fun e_77 =>
          if e_1.1 = e_77 then
            some (4, e_1.2)
          else
            bd1 (f_X12_word 19 20 5 16 19) fun e_95 =>
            if e_1.1 = e_95 then
              some (5, e_1.2)
            else
              bd1 (f_X12_word 20 15 18 14 0) fun e_113 =>
              if e_1.1 = e_113 then
                f_X12_nameHere_125 e_1.2 6
              else
                f_X12_nameHere_125 e_1.2 (-1)
theorem s_X12_nameHere {d : Nat} {X : Nat × (Nat → Int32)} {sh : px_Sh} {M : px_M} {L : px_L} {R : px_R} {n : Nat} {e : Int32 × px_M} (hS : SR sh R) (hd : 3 ≤ d) (h : f_X12_nameHere M = some e) : MX yX12_nameHere cX12_nameHere 2 (some .int) d 0 0 X [.ref 73] sh M L R n (px_pu (some (.int e.1)) sh e.2 L R n) := by
  refine MX.of (by decide +kernel) (by exact Nat.le_of_ble_eq_true rfl) ?_
  have hcu : 0 ≤ 0 := Nat.zero_le _
  have hsu : 0 ≤ 0 := Nat.zero_le _
  have g : px_pu (some (.int e.1)) sh e.2 L R n (some (.int e.1)) sh e.2 L R n := ⟨rfl, rfl, rfl, rfl, rfl, rfl⟩
  unfold f_X12_nameHere at h
  refine wx_aload_n dX12_nameHere_0 rfl ?_
  obtain ⟨e_1, k_1, h⟩ := bd1_some h
  refine wx_cVi dX12_nameHere_1 ml_X12_361 my_X12_wordHere iv_X12_wordHere (sc_73 hS) (by decide) (s_X12_wordHere (d := d - 1) hS (by omega) k_1) rfl (by omega) (by exact Nat.le_of_ble_eq_true rfl) hcu hsu ?_
  refine wx_istore_n (lv' := [(1, _), (0, _)]) dX12_nameHere_4 (by decide) rfl ?_
  refine wx_iload_n dX12_nameHere_5 rfl ?_
  refine wx_bipush (v := 18) dX12_nameHere_6 (by decide) ?_
  refine wx_bipush (v := 8) dX12_nameHere_8 (by decide) ?_
  refine wx_bipush (v := 15) dX12_nameHere_10 (by decide) ?_
  refine wx_iconst (v := 0) dX12_nameHere_12 (by decide) ?_
  refine wx_iconst (v := 0) dX12_nameHere_13 (by decide) ?_
  obtain ⟨e_14, k_14, h⟩ := bd1_some h
  refine wx_cSi dX12_nameHere_14 ml_X12_364 my_X12_word sv_X12_word (s_X12_word (d := d - 1) hS (by omega) k_14) rfl (by omega) (by exact Nat.le_of_ble_eq_true rfl) hcu hsu ?_
  refine wx_icmp_ne (tgt := 22) dX12_nameHere_17 (by decide) (fun c_17 => ?_) (fun c_17 => ?_)
  · replace h := it_f h c_17
    refine wx_iload_n dX12_nameHere_22 rfl ?_
    refine wx_iconst (v := 1) dX12_nameHere_23 (by decide) ?_
    refine wx_bipush (v := 14) dX12_nameHere_24 (by decide) ?_
    refine wx_bipush (v := 7) dX12_nameHere_26 (by decide) ?_
    refine wx_bipush (v := 12) dX12_nameHere_28 (by decide) ?_
    refine wx_iconst (v := 5) dX12_nameHere_30 (by decide) ?_
    obtain ⟨e_31, k_31, h⟩ := bd1_some h
    refine wx_cSi dX12_nameHere_31 ml_X12_364 my_X12_word sv_X12_word (s_X12_word (d := d - 1) hS (by omega) k_31) rfl (by omega) (by exact Nat.le_of_ble_eq_true rfl) hcu hsu ?_
    refine wx_icmp_ne (tgt := 39) dX12_nameHere_34 (by decide) (fun c_34 => ?_) (fun c_34 => ?_)
    · replace h := it_f h c_34
      refine wx_iload_n dX12_nameHere_39 rfl ?_
      refine wx_iconst (v := 4) dX12_nameHere_40 (by decide) ?_
      refine wx_iconst (v := 1) dX12_nameHere_41 (by decide) ?_
      refine wx_bipush (v := 25) dX12_nameHere_42 (by decide) ?_
      refine wx_iconst (v := 0) dX12_nameHere_44 (by decide) ?_
      refine wx_iconst (v := 0) dX12_nameHere_45 (by decide) ?_
      obtain ⟨e_46, k_46, h⟩ := bd1_some h
      refine wx_cSi dX12_nameHere_46 ml_X12_364 my_X12_word sv_X12_word (s_X12_word (d := d - 1) hS (by omega) k_46) rfl (by omega) (by exact Nat.le_of_ble_eq_true rfl) hcu hsu ?_
      refine wx_icmp_ne (tgt := 54) dX12_nameHere_49 (by decide) (fun c_49 => ?_) (fun c_49 => ?_)
      · replace h := it_f h c_49
        refine wx_iload_n dX12_nameHere_54 rfl ?_
        refine wx_bipush (v := 6) dX12_nameHere_55 (by decide) ?_
        refine wx_iconst (v := 1) dX12_nameHere_57 (by decide) ?_
        refine wx_bipush (v := 18) dX12_nameHere_58 (by decide) ?_
        refine wx_iconst (v := 0) dX12_nameHere_60 (by decide) ?_
        refine wx_iconst (v := 0) dX12_nameHere_61 (by decide) ?_
        obtain ⟨e_62, k_62, h⟩ := bd1_some h
        refine wx_cSi dX12_nameHere_62 ml_X12_364 my_X12_word sv_X12_word (s_X12_word (d := d - 1) hS (by omega) k_62) rfl (by omega) (by exact Nat.le_of_ble_eq_true rfl) hcu hsu ?_
        refine wx_icmp_ne (tgt := 70) dX12_nameHere_65 (by decide) (fun c_65 => ?_) (fun c_65 => ?_)
        · replace h := it_f h c_65
          refine wx_iload_n dX12_nameHere_70 rfl ?_
          refine wx_bipush (v := 12) dX12_nameHere_71 (by decide) ?_
          refine wx_iconst (v := 5) dX12_nameHere_73 (by decide) ?_
          refine wx_iconst (v := 1) dX12_nameHere_74 (by decide) ?_
          refine wx_iconst (v := 4) dX12_nameHere_75 (by decide) ?_
          refine wx_iconst (v := 0) dX12_nameHere_76 (by decide) ?_
          obtain ⟨e_77, k_77, h⟩ := bd1_some h
          refine wx_cSi dX12_nameHere_77 ml_X12_364 my_X12_word sv_X12_word (s_X12_word (d := d - 1) hS (by omega) k_77) rfl (by omega) (by exact Nat.le_of_ble_eq_true rfl) hcu hsu ?_
          refine wx_icmp_ne (tgt := 85) dX12_nameHere_80 (by decide) (fun c_80 => ?_) (fun c_80 => ?_)
          · replace h := it_f h c_80
            refine wx_iload_n dX12_nameHere_85 rfl ?_
            refine wx_bipush (v := 19) dX12_nameHere_86 (by decide) ?_
            refine wx_bipush (v := 20) dX12_nameHere_88 (by decide) ?_
            refine wx_iconst (v := 5) dX12_nameHere_90 (by decide) ?_
            refine wx_bipush (v := 16) dX12_nameHere_91 (by decide) ?_
            refine wx_bipush (v := 19) dX12_nameHere_93 (by decide) ?_
            obtain ⟨e_95, k_95, h⟩ := bd1_some h
            refine wx_cSi dX12_nameHere_95 ml_X12_364 my_X12_word sv_X12_word (s_X12_word (d := d - 1) hS (by omega) k_95) rfl (by omega) (by exact Nat.le_of_ble_eq_true rfl) hcu hsu ?_
            refine wx_icmp_ne (tgt := 103) dX12_nameHere_98 (by decide) (fun c_98 => ?_) (fun c_98 => ?_)
            · replace h := it_f h c_98
              refine wx_iload_n dX12_nameHere_103 rfl ?_
              refine wx_bipush (v := 20) dX12_nameHere_104 (by decide) ?_
              refine wx_bipush (v := 15) dX12_nameHere_106 (by decide) ?_
              refine wx_bipush (v := 18) dX12_nameHere_108 (by decide) ?_
              refine wx_bipush (v := 14) dX12_nameHere_110 (by decide) ?_
              refine wx_iconst (v := 0) dX12_nameHere_112 (by decide) ?_
              obtain ⟨e_113, k_113, h⟩ := bd1_some h
              refine wx_cSi dX12_nameHere_113 ml_X12_364 my_X12_word sv_X12_word (s_X12_word (d := d - 1) hS (by omega) k_113) rfl (by omega) (by exact Nat.le_of_ble_eq_true rfl) hcu hsu ?_
              refine wx_icmp_ne (tgt := 124) dX12_nameHere_116 (by decide) (fun c_116 => ?_) (fun c_116 => ?_)
              · replace h := it_f h c_116
                refine wx_iconst (v := (-1)) dX12_nameHere_124 (by decide) ?_
                exact wx_sub (s_X12_nameHere_125 hS hd hcu hsu h g) px_0
              · replace h := it_t h c_116
                refine wx_bipush (v := 6) dX12_nameHere_119 (by decide) ?_
                refine wx_goto (tgt := 125) dX12_nameHere_121 (by decide) ?_
                exact wx_sub (s_X12_nameHere_125 hS hd hcu hsu h g) px_0
            · replace h := it_t h c_98
              refine wx_iconst (v := 5) dX12_nameHere_101 (by decide) ?_
              refine wx_iret dX12_nameHere_102 hcu hsu ?_
              obtain rfl := Option.some.inj h
              exact g
          · replace h := it_t h c_80
            refine wx_iconst (v := 4) dX12_nameHere_83 (by decide) ?_
            refine wx_iret dX12_nameHere_84 hcu hsu ?_
            obtain rfl := Option.some.inj h
            exact g
        · replace h := it_t h c_65
          refine wx_iconst (v := 3) dX12_nameHere_68 (by decide) ?_
          refine wx_iret dX12_nameHere_69 hcu hsu ?_
          obtain rfl := Option.some.inj h
          exact g
      · replace h := it_t h c_49
        refine wx_iconst (v := 2) dX12_nameHere_52 (by decide) ?_
        refine wx_iret dX12_nameHere_53 hcu hsu ?_
        obtain rfl := Option.some.inj h
        exact g
    · replace h := it_t h c_34
      refine wx_iconst (v := 1) dX12_nameHere_37 (by decide) ?_
      refine wx_iret dX12_nameHere_38 hcu hsu ?_
      obtain rfl := Option.some.inj h
      exact g
  · replace h := it_t h c_17
    refine wx_iconst (v := 0) dX12_nameHere_20 (by decide) ?_
    refine wx_iret dX12_nameHere_21 hcu hsu ?_
    obtain rfl := Option.some.inj h
    exact g
noncomputable def f_X12_named_89 (M : px_M) (x1 : Int32) (x2 : Int32) (x3 : Int32) (x5 : Int32) (z0 : Int32) (z1 : Int32) : Option ((Int32 × Int32) ⊕ (Int32)) :=
  nm (z1 + z0) fun v_90 =>
  some (.inl (v_90, (x5 + 1)))
theorem s_X12_named_89 {x1 : Int32} {x2 : Int32} {x3 : Int32} {x5 : Int32} {z0 : Int32} {z1 : Int32} {M : px_M} {L : px_L} {R : px_R} {e : ((Int32 × Int32) ⊕ (Int32))} (hS : SR sh R) (hd : 5 ≤ d) (hcu : cu ≤ mc) (hsu : su ≤ ms) (h : f_X12_named_89 M x1 x2 x3 x5 z0 z1 = some e) (g : (sE (fun a => WX RX12 cX12_named 6 (some .int) ("named", []) d mc ms X (px_QF Post mc ms) 63 [(0, .ref 73), (1, .int x1), (2, .int x2), (3, .int x3), (4, .int a.1), (5, .int a.2)] [] sh M L R n cu su) (fun t => WX RX12 cX12_named 6 (some .int) ("named", []) d mc ms X (px_QF Post mc ms) 98 [(0, .ref 73), (1, .int x1), (2, .int x2), (3, .int x3), (4, .int t)] [] sh M L R n cu su)) e) : WX RX12 cX12_named 6 (some .int) ("named", []) d mc ms X (px_QF Post mc ms) 89 [(0, .ref 73), (1, .int x1), (2, .int x2), (3, .int x3), (5, .int x5)] [.int z0, .int z1] sh M L R n cu su := by
  unfold f_X12_named_89 at h
  refine wx_iadd dX12_named_89 ?_
  refine wx_nami (fun v_90 q_90 => ?_)
  replace h := nm_at h q_90
  refine wx_istore (lv' := [(4, _), (0, _), (1, _), (2, _), (3, _), (5, _)]) dX12_named_90 (by decide) rfl ?_
  refine wx_iinc (lv' := [(5, _), (4, _), (0, _), (1, _), (2, _), (3, _)]) dX12_named_92 rfl (i_1 _) (by decide) rfl ?_
  refine wx_goto (tgt := 63) dX12_named_95 (by decide) ?_
  obtain rfl := Option.some.inj h
  replace g := sE_l g
  exact wx_sub g (px_s rfl (px_s rfl (px_s rfl (px_s rfl (px_s rfl (px_s rfl px_0))))))
noncomputable def f_X12_named_63 (M : px_M) (x1 : Int32) (x2 : Int32) (x3 : Int32) (x4 : Int32) (x5 : Int32) : Option ((Int32 × Int32) ⊕ (Int32)) :=
  if (M 73 9) ≤ x5 then
    some (.inr x4)
  else
    ok (ix x5 16) <|
    if (M 86 x5.toNatClampNeg) = 0 then
      f_X12_named_89 M x1 x2 x3 x5 0 x4
    else
      f_X12_named_89 M x1 x2 x3 x5 1 x4
theorem s_X12_named_63b {x1 : Int32} {x2 : Int32} {x3 : Int32} {x4 : Int32} {x5 : Int32} {M : px_M} {L : px_L} {R : px_R} {e : ((Int32 × Int32) ⊕ (Int32))} (hS : SR sh R) (hd : 5 ≤ d) (hcu : cu ≤ mc) (hsu : su ≤ ms) (h : f_X12_named_63 M x1 x2 x3 x4 x5 = some e) (g : (sE (fun a => WX RX12 cX12_named 6 (some .int) ("named", []) d mc ms X (px_QF Post mc ms) 63 [(0, .ref 73), (1, .int x1), (2, .int x2), (3, .int x3), (4, .int a.1), (5, .int a.2)] [] sh M L R n cu su) (fun t => WX RX12 cX12_named 6 (some .int) ("named", []) d mc ms X (px_QF Post mc ms) 98 [(0, .ref 73), (1, .int x1), (2, .int x2), (3, .int x3), (4, .int t)] [] sh M L R n cu su)) e) : WX RX12 cX12_named 6 (some .int) ("named", []) d mc ms X (px_QF Post mc ms) 63 [(0, .ref 73), (1, .int x1), (2, .int x2), (3, .int x3), (4, .int x4), (5, .int x5)] [] sh M L R n cu su := by
  unfold f_X12_named_63 at h
  refine wx_iload dX12_named_63 rfl ?_
  refine wx_aload_n dX12_named_65 rfl ?_
  refine wx_getI dX12_named_66 fl_X12_222 (sc_73 hS) rfl ?_
  refine wx_icmp_ge (tgt := 98) dX12_named_69 (by decide) (fun c_69 => ?_) (fun c_69 => ?_)
  · replace h := it_t h c_69
    obtain rfl := Option.some.inj h
    replace g := sE_r g
    exact wx_sub g (px_s rfl (px_s rfl (px_s rfl (px_s rfl (px_s rfl px_0)))))
  · replace h := it_f h c_69
    refine wx_iload dX12_named_72 rfl ?_
    refine wx_aload_n dX12_named_74 rfl ?_
    refine wx_getR dX12_named_75 fl_X12_47 (sc_73 hS) rfl (rr_73_20 hS) ?_
    refine wx_iload dX12_named_78 rfl ?_
    obtain ⟨w_80, h⟩ := ok_some h
    refine wx_bald dX12_named_80 (sc_86 hS) (ix_in w_80) ?_
    refine wx_if_eq (tgt := 88) dX12_named_81 (by decide) (fun c_81 => ?_) (fun c_81 => ?_)
    · replace h := it_t h c_81
      refine wx_iconst (v := 0) dX12_named_88 (by decide) ?_
      exact wx_sub (s_X12_named_89 hS hd hcu hsu h g) (px_s rfl (px_s rfl (px_s rfl (px_s rfl (px_s rfl px_0)))))
    · replace h := it_f h c_81
      refine wx_iconst (v := 1) dX12_named_84 (by decide) ?_
      refine wx_goto (tgt := 89) dX12_named_85 (by decide) ?_
      exact wx_sub (s_X12_named_89 hS hd hcu hsu h g) (px_s rfl (px_s rfl (px_s rfl (px_s rfl (px_s rfl px_0)))))
theorem s_X12_named_63 {x1 : Int32} {x2 : Int32} {x3 : Int32} {x4 : Int32} {x5 : Int32} {M : px_M} {L : px_L} {R : px_R} {e : (Int32)} (hS : SR sh R) (hd : 5 ≤ d) (hcu : cu ≤ mc) (hsu : su ≤ ms) (h : lpf (fun a : Int32 × Int32 => f_X12_named_63 M x1 x2 x3 a.1 a.2) (x4, x5) = some e) (g : WX RX12 cX12_named 6 (some .int) ("named", []) d mc ms X (px_QF Post mc ms) 98 [(0, .ref 73), (1, .int x1), (2, .int x2), (3, .int x3), (4, .int e)] [] sh M L R n cu su) : WX RX12 cX12_named 6 (some .int) ("named", []) d mc ms X (px_QF Post mc ms) 63 [(0, .ref 73), (1, .int x1), (2, .int x2), (3, .int x3), (4, .int x4), (5, .int x5)] [] sh M L R n cu su := by
  have key := lpf_wp (P := (fun a => WX RX12 cX12_named 6 (some .int) ("named", []) d mc ms X (px_QF Post mc ms) 63 [(0, .ref 73), (1, .int x1), (2, .int x2), (3, .int x3), (4, .int a.1), (5, .int a.2)] [] sh M L R n cu su)) (G := (fun t => WX RX12 cX12_named 6 (some .int) ("named", []) d mc ms X (px_QF Post mc ms) 98 [(0, .ref 73), (1, .int x1), (2, .int x2), (3, .int x3), (4, .int t)] [] sh M L R n cu su)) (fun a r h g => s_X12_named_63b (x1 := x1) (x2 := x2) (x3 := x3) (x4 := a.1) (x5 := a.2) (M := M) (L := L) (R := R) hS hd hcu hsu h g) (a := (x4, x5)) h g
  exact key
noncomputable def f_X12_named_183 (M : px_M) (z0 : Int32) : Option (Int32) :=
  some z0
theorem s_X12_named_183 {z0 : Int32} {M : px_M} {L : px_L} {R : px_R} {e : (Int32)} (hS : SR sh R) (hd : 5 ≤ d) (hcu : cu ≤ mc) (hsu : su ≤ ms) (h : f_X12_named_183 M z0 = some e) (g : Post (some (.int e)) sh M L R n) : WX RX12 cX12_named 6 (some .int) ("named", []) d mc ms X (px_QF Post mc ms) 183 [] [.int z0] sh M L R n cu su := by
  unfold f_X12_named_183 at h
  refine wx_iret dX12_named_183 hcu hsu ?_
  obtain rfl := Option.some.inj h
  exact g
noncomputable def f_X12_named_56 (M : px_M) (x1 : Int32) (x2 : Int32) (z0 : Int32) : Option (Int32) :=
  bd1 (lpf (fun a : Int32 × Int32 => f_X12_named_63 M x1 x2 z0 a.1 a.2) (0, 0)) fun e_63 =>
  if x1 = 0 then
    f_X12_named_183 M (M 73 25)
  else
    if x1 = 1 then
      f_X12_named_183 M (M 73 26)
    else
      if x1 = 2 then
        f_X12_named_183 M (M 73 24)
      else
        if x1 = 3 then
          f_X12_named_183 M x2
        else
          if x1 = 4 then
            if 0 ≤ z0 then
              f_X12_named_183 M z0
            else
              f_X12_named_183 M (z0 + 72)
          else
            if x1 = 5 then
              bd1 (f_X12_strength M) fun e_172 =>
              bd1 (f_X12_stepsAt (M 73 25) e_172) fun e_175 =>
              f_X12_named_183 M e_175
            else
              f_X12_named_183 M e_63
theorem s_X12_named_56 {x1 : Int32} {x2 : Int32} {z0 : Int32} {M : px_M} {L : px_L} {R : px_R} {e : (Int32)} (hS : SR sh R) (hd : 5 ≤ d) (hcu : cu ≤ mc) (hsu : su ≤ ms) (h : f_X12_named_56 M x1 x2 z0 = some e) (g : Post (some (.int e)) sh M L R n) : WX RX12 cX12_named 6 (some .int) ("named", []) d mc ms X (px_QF Post mc ms) 56 [(0, .ref 73), (1, .int x1), (2, .int x2)] [.int z0] sh M L R n cu su := by
  unfold f_X12_named_56 at h
  refine wx_istore_n (lv' := [(3, _), (0, _), (1, _), (2, _)]) dX12_named_56 (by decide) rfl ?_
  refine wx_iconst (v := 0) dX12_named_57 (by decide) ?_
  refine wx_istore (lv' := [(4, _), (3, _), (0, _), (1, _), (2, _)]) dX12_named_58 (by decide) rfl ?_
  refine wx_iconst (v := 0) dX12_named_60 (by decide) ?_
  refine wx_istore (lv' := [(5, _), (4, _), (3, _), (0, _), (1, _), (2, _)]) dX12_named_61 (by decide) rfl ?_
  obtain ⟨e_63, k_63, h⟩ := bd1_some h
  refine wx_sub (s_X12_named_63 hS hd hcu hsu k_63 ?_) (px_s rfl (px_s rfl (px_s rfl (px_s rfl (px_s rfl (px_s rfl px_0))))))
  refine wx_iload_n dX12_named_98 rfl ?_
  refine wx_if_ne (tgt := 109) dX12_named_99 (by decide) (fun c_99 => ?_) (fun c_99 => ?_)
  · replace h := it_f h c_99
    refine wx_iload_n dX12_named_109 rfl ?_
    refine wx_iconst (v := 1) dX12_named_110 (by decide) ?_
    refine wx_icmp_ne (tgt := 121) dX12_named_111 (by decide) (fun c_111 => ?_) (fun c_111 => ?_)
    · replace h := it_f h c_111
      refine wx_iload_n dX12_named_121 rfl ?_
      refine wx_iconst (v := 2) dX12_named_122 (by decide) ?_
      refine wx_icmp_ne (tgt := 133) dX12_named_123 (by decide) (fun c_123 => ?_) (fun c_123 => ?_)
      · replace h := it_f h c_123
        refine wx_iload_n dX12_named_133 rfl ?_
        refine wx_iconst (v := 3) dX12_named_134 (by decide) ?_
        refine wx_icmp_ne (tgt := 142) dX12_named_135 (by decide) (fun c_135 => ?_) (fun c_135 => ?_)
        · replace h := it_f h c_135
          refine wx_iload_n dX12_named_142 rfl ?_
          refine wx_iconst (v := 4) dX12_named_143 (by decide) ?_
          refine wx_icmp_ne (tgt := 162) dX12_named_144 (by decide) (fun c_144 => ?_) (fun c_144 => ?_)
          · replace h := it_f h c_144
            refine wx_iload_n dX12_named_162 rfl ?_
            refine wx_iconst (v := 5) dX12_named_163 (by decide) ?_
            refine wx_icmp_ne (tgt := 181) dX12_named_164 (by decide) (fun c_164 => ?_) (fun c_164 => ?_)
            · replace h := it_f h c_164
              refine wx_iload dX12_named_181 rfl ?_
              exact wx_sub (s_X12_named_183 hS hd hcu hsu h g) px_0
            · replace h := it_t h c_164
              refine wx_aload_n dX12_named_167 rfl ?_
              refine wx_getI dX12_named_168 fl_X12_59 (sc_73 hS) rfl ?_
              refine wx_aload_n dX12_named_171 rfl ?_
              obtain ⟨e_172, k_172, h⟩ := bd1_some h
              refine wx_cVi dX12_named_172 ml_X12_317 my_X12_strength iv_X12_strength (sc_73 hS) (by decide) (s_X12_strength (d := d - 1) hS (by omega) k_172) rfl (by omega) (by exact Nat.le_of_ble_eq_true rfl) hcu hsu ?_
              obtain ⟨e_175, k_175, h⟩ := bd1_some h
              refine wx_cSi dX12_named_175 ml_X12_295 my_X12_stepsAt sv_X12_stepsAt (s_X12_stepsAt (d := d - 1) hS (by omega) k_175) rfl (by omega) (by exact Nat.le_of_ble_eq_true rfl) hcu hsu ?_
              refine wx_goto (tgt := 183) dX12_named_178 (by decide) ?_
              exact wx_sub (s_X12_named_183 hS hd hcu hsu h g) px_0
          · replace h := it_t h c_144
            refine wx_iload_n dX12_named_147 rfl ?_
            refine wx_if_ge (tgt := 158) dX12_named_148 (by decide) (fun c_148 => ?_) (fun c_148 => ?_)
            · replace h := it_t h c_148
              refine wx_iload_n dX12_named_158 rfl ?_
              refine wx_goto (tgt := 183) dX12_named_159 (by decide) ?_
              exact wx_sub (s_X12_named_183 hS hd hcu hsu h g) px_0
            · replace h := it_f h c_148
              refine wx_iload_n dX12_named_151 rfl ?_
              refine wx_bipush (v := 72) dX12_named_152 (by decide) ?_
              refine wx_iadd dX12_named_154 ?_
              refine wx_goto (tgt := 183) dX12_named_155 (by decide) ?_
              exact wx_sub (s_X12_named_183 hS hd hcu hsu h g) px_0
        · replace h := it_t h c_135
          refine wx_iload_n dX12_named_138 rfl ?_
          refine wx_goto (tgt := 183) dX12_named_139 (by decide) ?_
          exact wx_sub (s_X12_named_183 hS hd hcu hsu h g) px_0
      · replace h := it_t h c_123
        refine wx_aload_n dX12_named_126 rfl ?_
        refine wx_getI dX12_named_127 fl_X12_307 (sc_73 hS) rfl ?_
        refine wx_goto (tgt := 183) dX12_named_130 (by decide) ?_
        exact wx_sub (s_X12_named_183 hS hd hcu hsu h g) px_0
    · replace h := it_t h c_111
      refine wx_aload_n dX12_named_114 rfl ?_
      refine wx_getI dX12_named_115 fl_X12_304 (sc_73 hS) rfl ?_
      refine wx_goto (tgt := 183) dX12_named_118 (by decide) ?_
      exact wx_sub (s_X12_named_183 hS hd hcu hsu h g) px_0
  · replace h := it_t h c_99
    refine wx_aload_n dX12_named_102 rfl ?_
    refine wx_getI dX12_named_103 fl_X12_59 (sc_73 hS) rfl ?_
    refine wx_goto (tgt := 183) dX12_named_106 (by decide) ?_
    exact wx_sub (s_X12_named_183 hS hd hcu hsu h g) px_0
noncomputable def f_X12_named_26 (M : px_M) (x1 : Int32) (z0 : Int32) : Option (Int32) :=
  if (M 73 28) = (-1) then
    f_X12_named_56 M x1 z0 0
  else
    bd1 (f_X12_angleOf M (M 73 28) (M 73 24)) fun e_48 =>
    f_X12_named_56 M x1 z0 (e_48 - (M 73 26))
theorem s_X12_named_26 {x1 : Int32} {z0 : Int32} {M : px_M} {L : px_L} {R : px_R} {e : (Int32)} (hS : SR sh R) (hd : 5 ≤ d) (hcu : cu ≤ mc) (hsu : su ≤ ms) (h : f_X12_named_26 M x1 z0 = some e) (g : Post (some (.int e)) sh M L R n) : WX RX12 cX12_named 6 (some .int) ("named", []) d mc ms X (px_QF Post mc ms) 26 [(0, .ref 73), (1, .int x1)] [.int z0] sh M L R n cu su := by
  unfold f_X12_named_26 at h
  refine wx_istore_n (lv' := [(2, _), (0, _), (1, _)]) dX12_named_26 (by decide) rfl ?_
  refine wx_aload_n dX12_named_27 rfl ?_
  refine wx_getI dX12_named_28 fl_X12_63 (sc_73 hS) rfl ?_
  refine wx_iconst (v := (-1)) dX12_named_31 (by decide) ?_
  refine wx_icmp_ne (tgt := 39) dX12_named_32 (by decide) (fun c_32 => ?_) (fun c_32 => ?_)
  · replace h := it_f h c_32
    refine wx_aload_n dX12_named_39 rfl ?_
    refine wx_aload_n dX12_named_40 rfl ?_
    refine wx_getI dX12_named_41 fl_X12_63 (sc_73 hS) rfl ?_
    refine wx_aload_n dX12_named_44 rfl ?_
    refine wx_getI dX12_named_45 fl_X12_307 (sc_73 hS) rfl ?_
    obtain ⟨e_48, k_48, h⟩ := bd1_some h
    refine wx_cVi dX12_named_48 ml_X12_292 my_X12_angleOf iv_X12_angleOf (sc_73 hS) (by decide) (s_X12_angleOf (d := d - 1) hS (by omega) k_48) rfl (by omega) (by exact Nat.le_of_ble_eq_true rfl) hcu hsu ?_
    refine wx_aload_n dX12_named_51 rfl ?_
    refine wx_getI dX12_named_52 fl_X12_304 (sc_73 hS) rfl ?_
    refine wx_isub dX12_named_55 ?_
    exact wx_sub (s_X12_named_56 hS hd hcu hsu h g) (px_s rfl (px_s rfl (px_s rfl px_0)))
  · replace h := it_t h c_32
    refine wx_iconst (v := 0) dX12_named_35 (by decide) ?_
    refine wx_goto (tgt := 56) dX12_named_36 (by decide) ?_
    exact wx_sub (s_X12_named_56 hS hd hcu hsu h g) (px_s rfl (px_s rfl (px_s rfl px_0)))
noncomputable def f_X12_named (M : px_M) (p1 : Int32) : Option (Int32) :=
  if (M 73 28) = (-1) then
    f_X12_named_26 M p1 0
  else
    nm (M 73 28) fun v_20 =>
    ok (ix v_20 4) <|
    f_X12_named_26 M p1 ((M 90 v_20.toNatClampNeg) - (M 73 25))
theorem s_X12_named {d : Nat} {X : Nat × (Nat → Int32)} {sh : px_Sh} {M : px_M} {L : px_L} {R : px_R} {n : Nat} {p1 : Int32} {e : Int32} (hS : SR sh R) (hd : 5 ≤ d) (h : f_X12_named M p1 = some e) : MX yX12_named cX12_named 6 (some .int) d 0 0 X [.ref 73, .int p1] sh M L R n (px_pu (some (.int e)) sh M L R n) := by
  refine MX.of (by decide +kernel) (by exact Nat.le_of_ble_eq_true rfl) ?_
  have hcu : 0 ≤ 0 := Nat.zero_le _
  have hsu : 0 ≤ 0 := Nat.zero_le _
  have g : px_pu (some (.int e)) sh M L R n (some (.int e)) sh M L R n := ⟨rfl, rfl, rfl, rfl, rfl, rfl⟩
  unfold f_X12_named at h
  refine wx_aload_n dX12_named_0 rfl ?_
  refine wx_getI dX12_named_1 fl_X12_63 (sc_73 hS) rfl ?_
  refine wx_iconst (v := (-1)) dX12_named_4 (by decide) ?_
  refine wx_icmp_ne (tgt := 12) dX12_named_5 (by decide) (fun c_5 => ?_) (fun c_5 => ?_)
  · replace h := it_f h c_5
    refine wx_aload_n dX12_named_12 rfl ?_
    refine wx_getR dX12_named_13 fl_X12_66 (sc_73 hS) rfl (rr_73_29 hS) ?_
    refine wx_aload_n dX12_named_16 rfl ?_
    refine wx_getI dX12_named_17 fl_X12_63 (sc_73 hS) rfl ?_
    refine wx_nami (fun v_20 q_20 => ?_)
    replace h := nm_at h q_20
    obtain ⟨w_20, h⟩ := ok_some h
    refine wx_iald dX12_named_20 (sc_90 hS) (ix_in w_20) ?_
    refine wx_aload_n dX12_named_21 rfl ?_
    refine wx_getI dX12_named_22 fl_X12_59 (sc_73 hS) rfl ?_
    refine wx_isub dX12_named_25 ?_
    exact wx_sub (s_X12_named_26 hS hd hcu hsu h g) (px_s rfl (px_s rfl px_0))
  · replace h := it_t h c_5
    refine wx_iconst (v := 0) dX12_named_8 (by decide) ?_
    refine wx_goto (tgt := 26) dX12_named_9 (by decide) ?_
    exact wx_sub (s_X12_named_26 hS hd hcu hsu h g) (px_s rfl (px_s rfl px_0))
noncomputable def o_X12_product_89 (r_X12_unit : px_M → Option (Int32 × px_M)) (M : px_M) (z0 : Int32) : Option ((Int32 × px_M) ⊕ (Int32 × px_M)) :=
  bd1 (f_X12_blanks M) fun e_91 =>
  some (.inl (z0, e_91))
theorem so_X12_product_89 {dr : Nat} {r_X12_unit : px_M → Option (Int32 × px_M)} {z0 : Int32} {M : px_M} {L : px_L} {R : px_R} {e : ((Int32 × px_M) ⊕ (Int32 × px_M))} (h_X12_unit : ∀ {d : Nat} {X : Nat × (Nat → Int32)} {sh : px_Sh} {M : px_M} {L : px_L} {R : px_R} {n : Nat} {e : Int32 × px_M}, SR sh R → dr ≤ d → r_X12_unit M = some e → MX yX12_unit cX12_unit 7 (some .int) d 0 0 X [.ref 73] sh M L R n (px_pu (some (.int e.1)) sh e.2 L R n)) (hS : SR sh R) (hd : 2 ≤ d) (hdr : dr + 1 ≤ d) (hcu : cu ≤ mc) (hsu : su ≤ ms) (h : o_X12_product_89 r_X12_unit M z0 = some e) (g : (sE (fun a => WX RX12 cX12_product 4 (some .int) ("product", []) d mc ms X (px_QF Post mc ms) 9 [(0, .ref 73), (1, .int a.1)] [] sh (a.2) L R n cu su) (fun t => WX RX12 cX12_product 4 (some .int) ("product", []) d mc ms X (px_QF Post mc ms) 97 [(1, .int t.1)] [] sh (t.2) L R n cu su)) e) : WX RX12 cX12_product 4 (some .int) ("product", []) d mc ms X (px_QF Post mc ms) 89 [(0, .ref 73)] [.int z0] sh M L R n cu su := by
  unfold o_X12_product_89 at h
  refine wx_istore_n (lv' := [(1, _), (0, _)]) dX12_product_89 (by decide) rfl ?_
  refine wx_aload_n dX12_product_90 rfl ?_
  obtain ⟨e_91, k_91, h⟩ := bd1_some h
  refine wx_cVv dX12_product_91 ml_X12_345 my_X12_blanks iv_X12_blanks (sc_73 hS) (by decide) (s_X12_blanks (d := d - 1) hS (by omega) k_91) rfl (by omega) (by exact Nat.le_of_ble_eq_true rfl) hcu hsu ?_
  refine wx_goto (tgt := 9) dX12_product_94 (by decide) ?_
  obtain rfl := Option.some.inj h
  replace g := sE_l g
  exact wx_sub g (px_s rfl (px_s rfl px_0))
noncomputable def o_X12_product_42 (r_X12_unit : px_M → Option (Int32 × px_M)) (M : px_M) (x1 : Int32) : Option ((Int32 × px_M) ⊕ (Int32 × px_M)) :=
  bd1 (f_X12_byteAt M (M 73 78)) fun e_47 =>
  nm ((M 73 78) + 1) fun v_58 =>
  nm (px_u M 73 78 v_58) fun M_58 =>
  bd1 (r_X12_unit M_58) fun e_62 =>
  if e_47 = 42 then
    o_X12_product_89 r_X12_unit e_62.2 (x1 * e_62.1)
  else
    if e_62.1 = 0 then
      o_X12_product_89 r_X12_unit e_62.2 0
    else
      ok (nz e_62.1 0) <|
      o_X12_product_89 r_X12_unit e_62.2 (x1 / e_62.1)
theorem so_X12_product_42 {dr : Nat} {r_X12_unit : px_M → Option (Int32 × px_M)} {x1 : Int32} {M : px_M} {L : px_L} {R : px_R} {e : ((Int32 × px_M) ⊕ (Int32 × px_M))} (h_X12_unit : ∀ {d : Nat} {X : Nat × (Nat → Int32)} {sh : px_Sh} {M : px_M} {L : px_L} {R : px_R} {n : Nat} {e : Int32 × px_M}, SR sh R → dr ≤ d → r_X12_unit M = some e → MX yX12_unit cX12_unit 7 (some .int) d 0 0 X [.ref 73] sh M L R n (px_pu (some (.int e.1)) sh e.2 L R n)) (hS : SR sh R) (hd : 2 ≤ d) (hdr : dr + 1 ≤ d) (hcu : cu ≤ mc) (hsu : su ≤ ms) (h : o_X12_product_42 r_X12_unit M x1 = some e) (g : (sE (fun a => WX RX12 cX12_product 4 (some .int) ("product", []) d mc ms X (px_QF Post mc ms) 9 [(0, .ref 73), (1, .int a.1)] [] sh (a.2) L R n cu su) (fun t => WX RX12 cX12_product 4 (some .int) ("product", []) d mc ms X (px_QF Post mc ms) 97 [(1, .int t.1)] [] sh (t.2) L R n cu su)) e) : WX RX12 cX12_product 4 (some .int) ("product", []) d mc ms X (px_QF Post mc ms) 42 [(0, .ref 73), (1, .int x1)] [] sh M L R n cu su := by
  unfold o_X12_product_42 at h
  refine wx_aload_n dX12_product_42 rfl ?_
  refine wx_aload_n dX12_product_43 rfl ?_
  refine wx_getI dX12_product_44 fl_X12_333 (sc_73 hS) rfl ?_
  obtain ⟨e_47, k_47, h⟩ := bd1_some h
  refine wx_cVi dX12_product_47 ml_X12_336 my_X12_byteAt iv_X12_byteAt (sc_73 hS) (by decide) (s_X12_byteAt (d := d - 1) hS (by omega) k_47) rfl (by omega) (by exact Nat.le_of_ble_eq_true rfl) hcu hsu ?_
  refine wx_istore_n (lv' := [(2, _), (0, _), (1, _)]) dX12_product_50 (by decide) rfl ?_
  refine wx_aload_n dX12_product_51 rfl ?_
  refine wx_dup dX12_product_52 rfl ?_
  refine wx_getI dX12_product_53 fl_X12_333 (sc_73 hS) rfl ?_
  refine wx_iconst (v := 1) dX12_product_56 (by decide) ?_
  refine wx_iadd dX12_product_57 ?_
  refine wx_nami (fun v_58 q_58 => ?_)
  replace h := nm_at h q_58
  refine wx_putI dX12_product_58 fl_X12_333 (sc_73 hS) (Or.inl rfl) rfl ⟨rfl, rfl⟩ ?_
  refine wx_namM (fun M_58 q_58 => ?_)
  replace h := nm_at h q_58
  refine wx_aload_n dX12_product_61 rfl ?_
  obtain ⟨e_62, k_62, h⟩ := bd1_some h
  refine wx_cVi dX12_product_62 ml_X12_390 my_X12_unit iv_X12_unit (sc_73 hS) (by decide) (h_X12_unit (d := d - 1) hS (by omega) k_62) rfl (by omega) (by exact Nat.le_of_ble_eq_true rfl) hcu hsu ?_
  refine wx_istore_n (lv' := [(3, _), (2, _), (0, _), (1, _)]) dX12_product_65 (by decide) rfl ?_
  refine wx_iload_n dX12_product_66 rfl ?_
  refine wx_bipush (v := 42) dX12_product_67 (by decide) ?_
  refine wx_icmp_ne (tgt := 78) dX12_product_69 (by decide) (fun c_69 => ?_) (fun c_69 => ?_)
  · replace h := it_f h c_69
    refine wx_iload_n dX12_product_78 rfl ?_
    refine wx_if_ne (tgt := 86) dX12_product_79 (by decide) (fun c_79 => ?_) (fun c_79 => ?_)
    · replace h := it_f h c_79
      refine wx_iload_n dX12_product_86 rfl ?_
      refine wx_iload_n dX12_product_87 rfl ?_
      obtain ⟨w_88, h⟩ := ok_some h
      refine wx_idiv dX12_product_88 (nz_n w_88) ?_
      exact wx_sub (so_X12_product_89 h_X12_unit hS hd hdr hcu hsu h g) (px_s rfl px_0)
    · replace h := it_t h c_79
      refine wx_iconst (v := 0) dX12_product_82 (by decide) ?_
      refine wx_goto (tgt := 89) dX12_product_83 (by decide) ?_
      exact wx_sub (so_X12_product_89 h_X12_unit hS hd hdr hcu hsu h g) (px_s rfl px_0)
  · replace h := it_t h c_69
    refine wx_iload_n dX12_product_72 rfl ?_
    refine wx_iload_n dX12_product_73 rfl ?_
    refine wx_imul dX12_product_74 ?_
    refine wx_goto (tgt := 89) dX12_product_75 (by decide) ?_
    exact wx_sub (so_X12_product_89 h_X12_unit hS hd hdr hcu hsu h g) (px_s rfl px_0)
noncomputable def o_X12_product_9 (r_X12_unit : px_M → Option (Int32 × px_M)) (M : px_M) (x1 : Int32) : Option ((Int32 × px_M) ⊕ (Int32 × px_M)) :=
  if (M 73 81) = 0 then
    bd1 (f_X12_byteAt M (M 73 78)) fun e_21 =>
    if e_21 = 42 then
      o_X12_product_42 r_X12_unit M x1
    else
      bd1 (f_X12_byteAt M (M 73 78)) fun e_34 =>
      if e_34 = 47 then
        o_X12_product_42 r_X12_unit M x1
      else
        some (.inr (x1, M))
  else
    some (.inr (x1, M))
theorem so_X12_product_9b {dr : Nat} {r_X12_unit : px_M → Option (Int32 × px_M)} {x1 : Int32} {M : px_M} {L : px_L} {R : px_R} {e : ((Int32 × px_M) ⊕ (Int32 × px_M))} (h_X12_unit : ∀ {d : Nat} {X : Nat × (Nat → Int32)} {sh : px_Sh} {M : px_M} {L : px_L} {R : px_R} {n : Nat} {e : Int32 × px_M}, SR sh R → dr ≤ d → r_X12_unit M = some e → MX yX12_unit cX12_unit 7 (some .int) d 0 0 X [.ref 73] sh M L R n (px_pu (some (.int e.1)) sh e.2 L R n)) (hS : SR sh R) (hd : 2 ≤ d) (hdr : dr + 1 ≤ d) (hcu : cu ≤ mc) (hsu : su ≤ ms) (h : o_X12_product_9 r_X12_unit M x1 = some e) (g : (sE (fun a => WX RX12 cX12_product 4 (some .int) ("product", []) d mc ms X (px_QF Post mc ms) 9 [(0, .ref 73), (1, .int a.1)] [] sh (a.2) L R n cu su) (fun t => WX RX12 cX12_product 4 (some .int) ("product", []) d mc ms X (px_QF Post mc ms) 97 [(1, .int t.1)] [] sh (t.2) L R n cu su)) e) : WX RX12 cX12_product 4 (some .int) ("product", []) d mc ms X (px_QF Post mc ms) 9 [(0, .ref 73), (1, .int x1)] [] sh M L R n cu su := by
  unfold o_X12_product_9 at h
  refine wx_aload_n dX12_product_9 rfl ?_
  refine wx_getI dX12_product_10 fl_X12_339 (sc_73 hS) rfl ?_
  refine wx_if_ne (tgt := 97) dX12_product_13 (by decide) (fun c_13 => ?_) (fun c_13 => ?_)
  · replace h := it_f h c_13
    obtain rfl := Option.some.inj h
    replace g := sE_r g
    exact wx_sub g (px_s rfl px_0)
  · replace h := it_t h c_13
    refine wx_aload_n dX12_product_16 rfl ?_
    refine wx_aload_n dX12_product_17 rfl ?_
    refine wx_getI dX12_product_18 fl_X12_333 (sc_73 hS) rfl ?_
    obtain ⟨e_21, k_21, h⟩ := bd1_some h
    refine wx_cVi dX12_product_21 ml_X12_336 my_X12_byteAt iv_X12_byteAt (sc_73 hS) (by decide) (s_X12_byteAt (d := d - 1) hS (by omega) k_21) rfl (by omega) (by exact Nat.le_of_ble_eq_true rfl) hcu hsu ?_
    refine wx_bipush (v := 42) dX12_product_24 (by decide) ?_
    refine wx_icmp_eq (tgt := 42) dX12_product_26 (by decide) (fun c_26 => ?_) (fun c_26 => ?_)
    · replace h := it_t h c_26
      exact wx_sub (so_X12_product_42 h_X12_unit hS hd hdr hcu hsu h g) (px_s rfl (px_s rfl px_0))
    · replace h := it_f h c_26
      refine wx_aload_n dX12_product_29 rfl ?_
      refine wx_aload_n dX12_product_30 rfl ?_
      refine wx_getI dX12_product_31 fl_X12_333 (sc_73 hS) rfl ?_
      obtain ⟨e_34, k_34, h⟩ := bd1_some h
      refine wx_cVi dX12_product_34 ml_X12_336 my_X12_byteAt iv_X12_byteAt (sc_73 hS) (by decide) (s_X12_byteAt (d := d - 1) hS (by omega) k_34) rfl (by omega) (by exact Nat.le_of_ble_eq_true rfl) hcu hsu ?_
      refine wx_bipush (v := 47) dX12_product_37 (by decide) ?_
      refine wx_icmp_ne (tgt := 97) dX12_product_39 (by decide) (fun c_39 => ?_) (fun c_39 => ?_)
      · replace h := it_f h c_39
        obtain rfl := Option.some.inj h
        replace g := sE_r g
        exact wx_sub g (px_s rfl px_0)
      · replace h := it_t h c_39
        exact wx_sub (so_X12_product_42 h_X12_unit hS hd hdr hcu hsu h g) (px_s rfl (px_s rfl px_0))
theorem so_X12_product_9 {dr : Nat} {r_X12_unit : px_M → Option (Int32 × px_M)} {x1 : Int32} {M : px_M} {L : px_L} {R : px_R} {e : (Int32 × px_M)} (h_X12_unit : ∀ {d : Nat} {X : Nat × (Nat → Int32)} {sh : px_Sh} {M : px_M} {L : px_L} {R : px_R} {n : Nat} {e : Int32 × px_M}, SR sh R → dr ≤ d → r_X12_unit M = some e → MX yX12_unit cX12_unit 7 (some .int) d 0 0 X [.ref 73] sh M L R n (px_pu (some (.int e.1)) sh e.2 L R n)) (hS : SR sh R) (hd : 2 ≤ d) (hdr : dr + 1 ≤ d) (hcu : cu ≤ mc) (hsu : su ≤ ms) (h : lpf (fun a : Int32 × px_M => o_X12_product_9 r_X12_unit a.2 a.1) (x1, M) = some e) (g : WX RX12 cX12_product 4 (some .int) ("product", []) d mc ms X (px_QF Post mc ms) 97 [(1, .int e.1)] [] sh (e.2) L R n cu su) : WX RX12 cX12_product 4 (some .int) ("product", []) d mc ms X (px_QF Post mc ms) 9 [(0, .ref 73), (1, .int x1)] [] sh M L R n cu su := by
  have key := lpf_wp (P := (fun a => WX RX12 cX12_product 4 (some .int) ("product", []) d mc ms X (px_QF Post mc ms) 9 [(0, .ref 73), (1, .int a.1)] [] sh (a.2) L R n cu su)) (G := (fun t => WX RX12 cX12_product 4 (some .int) ("product", []) d mc ms X (px_QF Post mc ms) 97 [(1, .int t.1)] [] sh (t.2) L R n cu su)) (fun a r h g => so_X12_product_9b (x1 := a.1) (M := a.2) (L := L) (R := R) h_X12_unit hS hd hdr hcu hsu h g) (a := (x1, M)) h g
  exact key
noncomputable def o_X12_product (r_X12_unit : px_M → Option (Int32 × px_M)) (M : px_M) : Option (Int32 × px_M) :=
  bd1 (r_X12_unit M) fun e_1 =>
  bd1 (f_X12_blanks e_1.2) fun e_6 =>
  bd1 (lpf (fun a : Int32 × px_M => o_X12_product_9 r_X12_unit a.2 a.1) (e_1.1, e_6)) fun e_9 =>
  some (e_9.1, e_9.2)
theorem so_X12_product {dr : Nat} {r_X12_unit : px_M → Option (Int32 × px_M)} {d : Nat} {X : Nat × (Nat → Int32)} {sh : px_Sh} {M : px_M} {L : px_L} {R : px_R} {n : Nat} {e : Int32 × px_M} (h_X12_unit : ∀ {d : Nat} {X : Nat × (Nat → Int32)} {sh : px_Sh} {M : px_M} {L : px_L} {R : px_R} {n : Nat} {e : Int32 × px_M}, SR sh R → dr ≤ d → r_X12_unit M = some e → MX yX12_unit cX12_unit 7 (some .int) d 0 0 X [.ref 73] sh M L R n (px_pu (some (.int e.1)) sh e.2 L R n)) (hS : SR sh R) (hd : 2 ≤ d) (hdr : dr + 1 ≤ d) (h : o_X12_product r_X12_unit M = some e) : MX yX12_product cX12_product 4 (some .int) d 0 0 X [.ref 73] sh M L R n (px_pu (some (.int e.1)) sh e.2 L R n) := by
  refine MX.of (by decide +kernel) (by exact Nat.le_of_ble_eq_true rfl) ?_
  have hcu : 0 ≤ 0 := Nat.zero_le _
  have hsu : 0 ≤ 0 := Nat.zero_le _
  have g : px_pu (some (.int e.1)) sh e.2 L R n (some (.int e.1)) sh e.2 L R n := ⟨rfl, rfl, rfl, rfl, rfl, rfl⟩
  unfold o_X12_product at h
  refine wx_aload_n dX12_product_0 rfl ?_
  obtain ⟨e_1, k_1, h⟩ := bd1_some h
  refine wx_cVi dX12_product_1 ml_X12_390 my_X12_unit iv_X12_unit (sc_73 hS) (by decide) (h_X12_unit (d := d - 1) hS (by omega) k_1) rfl (by omega) (by exact Nat.le_of_ble_eq_true rfl) hcu hsu ?_
  refine wx_istore_n (lv' := [(1, _), (0, _)]) dX12_product_4 (by decide) rfl ?_
  refine wx_aload_n dX12_product_5 rfl ?_
  obtain ⟨e_6, k_6, h⟩ := bd1_some h
  refine wx_cVv dX12_product_6 ml_X12_345 my_X12_blanks iv_X12_blanks (sc_73 hS) (by decide) (s_X12_blanks (d := d - 1) hS (by omega) k_6) rfl (by omega) (by exact Nat.le_of_ble_eq_true rfl) hcu hsu ?_
  obtain ⟨e_9, k_9, h⟩ := bd1_some h
  refine wx_sub (so_X12_product_9 h_X12_unit hS hd hdr hcu hsu k_9 ?_) (px_s rfl (px_s rfl px_0))
  refine wx_iload_n dX12_product_97 rfl ?_
  refine wx_iret dX12_product_98 hcu hsu ?_
  obtain rfl := Option.some.inj h
  exact g
noncomputable def o_X12_sum_81 (r_X12_unit : px_M → Option (Int32 × px_M)) (M : px_M) (z0 : Int32) : Option ((Int32 × px_M) ⊕ (Int32 × px_M)) :=
  bd1 (f_X12_blanks M) fun e_83 =>
  some (.inl (z0, e_83))
theorem so_X12_sum_81 {dr : Nat} {r_X12_unit : px_M → Option (Int32 × px_M)} {z0 : Int32} {M : px_M} {L : px_L} {R : px_R} {e : ((Int32 × px_M) ⊕ (Int32 × px_M))} (h_X12_unit : ∀ {d : Nat} {X : Nat × (Nat → Int32)} {sh : px_Sh} {M : px_M} {L : px_L} {R : px_R} {n : Nat} {e : Int32 × px_M}, SR sh R → dr ≤ d → r_X12_unit M = some e → MX yX12_unit cX12_unit 7 (some .int) d 0 0 X [.ref 73] sh M L R n (px_pu (some (.int e.1)) sh e.2 L R n)) (hS : SR sh R) (hd : 3 ≤ d) (hdr : dr + 2 ≤ d) (hcu : cu ≤ mc) (hsu : su ≤ ms) (h : o_X12_sum_81 r_X12_unit M z0 = some e) (g : (sE (fun a => WX RX12 cX12_sum 4 (some .int) ("sum", []) d mc ms X (px_QF Post mc ms) 9 [(0, .ref 73), (1, .int a.1)] [] sh (a.2) L R n cu su) (fun t => WX RX12 cX12_sum 4 (some .int) ("sum", []) d mc ms X (px_QF Post mc ms) 89 [(1, .int t.1)] [] sh (t.2) L R n cu su)) e) : WX RX12 cX12_sum 4 (some .int) ("sum", []) d mc ms X (px_QF Post mc ms) 81 [(0, .ref 73)] [.int z0] sh M L R n cu su := by
  unfold o_X12_sum_81 at h
  refine wx_istore_n (lv' := [(1, _), (0, _)]) dX12_sum_81 (by decide) rfl ?_
  refine wx_aload_n dX12_sum_82 rfl ?_
  obtain ⟨e_83, k_83, h⟩ := bd1_some h
  refine wx_cVv dX12_sum_83 ml_X12_345 my_X12_blanks iv_X12_blanks (sc_73 hS) (by decide) (s_X12_blanks (d := d - 1) hS (by omega) k_83) rfl (by omega) (by exact Nat.le_of_ble_eq_true rfl) hcu hsu ?_
  refine wx_goto (tgt := 9) dX12_sum_86 (by decide) ?_
  obtain rfl := Option.some.inj h
  replace g := sE_l g
  exact wx_sub g (px_s rfl (px_s rfl px_0))
noncomputable def o_X12_sum_42 (r_X12_unit : px_M → Option (Int32 × px_M)) (M : px_M) (x1 : Int32) : Option ((Int32 × px_M) ⊕ (Int32 × px_M)) :=
  bd1 (f_X12_byteAt M (M 73 78)) fun e_47 =>
  nm ((M 73 78) + 1) fun v_58 =>
  nm (px_u M 73 78 v_58) fun M_58 =>
  bd1 (o_X12_product r_X12_unit M_58) fun e_62 =>
  if e_47 = 43 then
    o_X12_sum_81 r_X12_unit e_62.2 (x1 + e_62.1)
  else
    o_X12_sum_81 r_X12_unit e_62.2 (x1 - e_62.1)
theorem so_X12_sum_42 {dr : Nat} {r_X12_unit : px_M → Option (Int32 × px_M)} {x1 : Int32} {M : px_M} {L : px_L} {R : px_R} {e : ((Int32 × px_M) ⊕ (Int32 × px_M))} (h_X12_unit : ∀ {d : Nat} {X : Nat × (Nat → Int32)} {sh : px_Sh} {M : px_M} {L : px_L} {R : px_R} {n : Nat} {e : Int32 × px_M}, SR sh R → dr ≤ d → r_X12_unit M = some e → MX yX12_unit cX12_unit 7 (some .int) d 0 0 X [.ref 73] sh M L R n (px_pu (some (.int e.1)) sh e.2 L R n)) (hS : SR sh R) (hd : 3 ≤ d) (hdr : dr + 2 ≤ d) (hcu : cu ≤ mc) (hsu : su ≤ ms) (h : o_X12_sum_42 r_X12_unit M x1 = some e) (g : (sE (fun a => WX RX12 cX12_sum 4 (some .int) ("sum", []) d mc ms X (px_QF Post mc ms) 9 [(0, .ref 73), (1, .int a.1)] [] sh (a.2) L R n cu su) (fun t => WX RX12 cX12_sum 4 (some .int) ("sum", []) d mc ms X (px_QF Post mc ms) 89 [(1, .int t.1)] [] sh (t.2) L R n cu su)) e) : WX RX12 cX12_sum 4 (some .int) ("sum", []) d mc ms X (px_QF Post mc ms) 42 [(0, .ref 73), (1, .int x1)] [] sh M L R n cu su := by
  unfold o_X12_sum_42 at h
  refine wx_aload_n dX12_sum_42 rfl ?_
  refine wx_aload_n dX12_sum_43 rfl ?_
  refine wx_getI dX12_sum_44 fl_X12_333 (sc_73 hS) rfl ?_
  obtain ⟨e_47, k_47, h⟩ := bd1_some h
  refine wx_cVi dX12_sum_47 ml_X12_336 my_X12_byteAt iv_X12_byteAt (sc_73 hS) (by decide) (s_X12_byteAt (d := d - 1) hS (by omega) k_47) rfl (by omega) (by exact Nat.le_of_ble_eq_true rfl) hcu hsu ?_
  refine wx_istore_n (lv' := [(2, _), (0, _), (1, _)]) dX12_sum_50 (by decide) rfl ?_
  refine wx_aload_n dX12_sum_51 rfl ?_
  refine wx_dup dX12_sum_52 rfl ?_
  refine wx_getI dX12_sum_53 fl_X12_333 (sc_73 hS) rfl ?_
  refine wx_iconst (v := 1) dX12_sum_56 (by decide) ?_
  refine wx_iadd dX12_sum_57 ?_
  refine wx_nami (fun v_58 q_58 => ?_)
  replace h := nm_at h q_58
  refine wx_putI dX12_sum_58 fl_X12_333 (sc_73 hS) (Or.inl rfl) rfl ⟨rfl, rfl⟩ ?_
  refine wx_namM (fun M_58 q_58 => ?_)
  replace h := nm_at h q_58
  refine wx_aload_n dX12_sum_61 rfl ?_
  obtain ⟨e_62, k_62, h⟩ := bd1_some h
  refine wx_cVi dX12_sum_62 ml_X12_393 my_X12_product iv_X12_product (sc_73 hS) (by decide) (so_X12_product (d := d - 1) h_X12_unit hS (by omega) (by omega) k_62) rfl (by omega) (by exact Nat.le_of_ble_eq_true rfl) hcu hsu ?_
  refine wx_istore_n (lv' := [(3, _), (2, _), (0, _), (1, _)]) dX12_sum_65 (by decide) rfl ?_
  refine wx_iload_n dX12_sum_66 rfl ?_
  refine wx_bipush (v := 43) dX12_sum_67 (by decide) ?_
  refine wx_icmp_ne (tgt := 78) dX12_sum_69 (by decide) (fun c_69 => ?_) (fun c_69 => ?_)
  · replace h := it_f h c_69
    refine wx_iload_n dX12_sum_78 rfl ?_
    refine wx_iload_n dX12_sum_79 rfl ?_
    refine wx_isub dX12_sum_80 ?_
    exact wx_sub (so_X12_sum_81 h_X12_unit hS hd hdr hcu hsu h g) (px_s rfl px_0)
  · replace h := it_t h c_69
    refine wx_iload_n dX12_sum_72 rfl ?_
    refine wx_iload_n dX12_sum_73 rfl ?_
    refine wx_iadd dX12_sum_74 ?_
    refine wx_goto (tgt := 81) dX12_sum_75 (by decide) ?_
    exact wx_sub (so_X12_sum_81 h_X12_unit hS hd hdr hcu hsu h g) (px_s rfl px_0)
noncomputable def o_X12_sum_9 (r_X12_unit : px_M → Option (Int32 × px_M)) (M : px_M) (x1 : Int32) : Option ((Int32 × px_M) ⊕ (Int32 × px_M)) :=
  if (M 73 81) = 0 then
    bd1 (f_X12_byteAt M (M 73 78)) fun e_21 =>
    if e_21 = 43 then
      o_X12_sum_42 r_X12_unit M x1
    else
      bd1 (f_X12_byteAt M (M 73 78)) fun e_34 =>
      if e_34 = 45 then
        o_X12_sum_42 r_X12_unit M x1
      else
        some (.inr (x1, M))
  else
    some (.inr (x1, M))
theorem so_X12_sum_9b {dr : Nat} {r_X12_unit : px_M → Option (Int32 × px_M)} {x1 : Int32} {M : px_M} {L : px_L} {R : px_R} {e : ((Int32 × px_M) ⊕ (Int32 × px_M))} (h_X12_unit : ∀ {d : Nat} {X : Nat × (Nat → Int32)} {sh : px_Sh} {M : px_M} {L : px_L} {R : px_R} {n : Nat} {e : Int32 × px_M}, SR sh R → dr ≤ d → r_X12_unit M = some e → MX yX12_unit cX12_unit 7 (some .int) d 0 0 X [.ref 73] sh M L R n (px_pu (some (.int e.1)) sh e.2 L R n)) (hS : SR sh R) (hd : 3 ≤ d) (hdr : dr + 2 ≤ d) (hcu : cu ≤ mc) (hsu : su ≤ ms) (h : o_X12_sum_9 r_X12_unit M x1 = some e) (g : (sE (fun a => WX RX12 cX12_sum 4 (some .int) ("sum", []) d mc ms X (px_QF Post mc ms) 9 [(0, .ref 73), (1, .int a.1)] [] sh (a.2) L R n cu su) (fun t => WX RX12 cX12_sum 4 (some .int) ("sum", []) d mc ms X (px_QF Post mc ms) 89 [(1, .int t.1)] [] sh (t.2) L R n cu su)) e) : WX RX12 cX12_sum 4 (some .int) ("sum", []) d mc ms X (px_QF Post mc ms) 9 [(0, .ref 73), (1, .int x1)] [] sh M L R n cu su := by
  unfold o_X12_sum_9 at h
  refine wx_aload_n dX12_sum_9 rfl ?_
  refine wx_getI dX12_sum_10 fl_X12_339 (sc_73 hS) rfl ?_
  refine wx_if_ne (tgt := 89) dX12_sum_13 (by decide) (fun c_13 => ?_) (fun c_13 => ?_)
  · replace h := it_f h c_13
    obtain rfl := Option.some.inj h
    replace g := sE_r g
    exact wx_sub g (px_s rfl px_0)
  · replace h := it_t h c_13
    refine wx_aload_n dX12_sum_16 rfl ?_
    refine wx_aload_n dX12_sum_17 rfl ?_
    refine wx_getI dX12_sum_18 fl_X12_333 (sc_73 hS) rfl ?_
    obtain ⟨e_21, k_21, h⟩ := bd1_some h
    refine wx_cVi dX12_sum_21 ml_X12_336 my_X12_byteAt iv_X12_byteAt (sc_73 hS) (by decide) (s_X12_byteAt (d := d - 1) hS (by omega) k_21) rfl (by omega) (by exact Nat.le_of_ble_eq_true rfl) hcu hsu ?_
    refine wx_bipush (v := 43) dX12_sum_24 (by decide) ?_
    refine wx_icmp_eq (tgt := 42) dX12_sum_26 (by decide) (fun c_26 => ?_) (fun c_26 => ?_)
    · replace h := it_t h c_26
      exact wx_sub (so_X12_sum_42 h_X12_unit hS hd hdr hcu hsu h g) (px_s rfl (px_s rfl px_0))
    · replace h := it_f h c_26
      refine wx_aload_n dX12_sum_29 rfl ?_
      refine wx_aload_n dX12_sum_30 rfl ?_
      refine wx_getI dX12_sum_31 fl_X12_333 (sc_73 hS) rfl ?_
      obtain ⟨e_34, k_34, h⟩ := bd1_some h
      refine wx_cVi dX12_sum_34 ml_X12_336 my_X12_byteAt iv_X12_byteAt (sc_73 hS) (by decide) (s_X12_byteAt (d := d - 1) hS (by omega) k_34) rfl (by omega) (by exact Nat.le_of_ble_eq_true rfl) hcu hsu ?_
      refine wx_bipush (v := 45) dX12_sum_37 (by decide) ?_
      refine wx_icmp_ne (tgt := 89) dX12_sum_39 (by decide) (fun c_39 => ?_) (fun c_39 => ?_)
      · replace h := it_f h c_39
        obtain rfl := Option.some.inj h
        replace g := sE_r g
        exact wx_sub g (px_s rfl px_0)
      · replace h := it_t h c_39
        exact wx_sub (so_X12_sum_42 h_X12_unit hS hd hdr hcu hsu h g) (px_s rfl (px_s rfl px_0))
theorem so_X12_sum_9 {dr : Nat} {r_X12_unit : px_M → Option (Int32 × px_M)} {x1 : Int32} {M : px_M} {L : px_L} {R : px_R} {e : (Int32 × px_M)} (h_X12_unit : ∀ {d : Nat} {X : Nat × (Nat → Int32)} {sh : px_Sh} {M : px_M} {L : px_L} {R : px_R} {n : Nat} {e : Int32 × px_M}, SR sh R → dr ≤ d → r_X12_unit M = some e → MX yX12_unit cX12_unit 7 (some .int) d 0 0 X [.ref 73] sh M L R n (px_pu (some (.int e.1)) sh e.2 L R n)) (hS : SR sh R) (hd : 3 ≤ d) (hdr : dr + 2 ≤ d) (hcu : cu ≤ mc) (hsu : su ≤ ms) (h : lpf (fun a : Int32 × px_M => o_X12_sum_9 r_X12_unit a.2 a.1) (x1, M) = some e) (g : WX RX12 cX12_sum 4 (some .int) ("sum", []) d mc ms X (px_QF Post mc ms) 89 [(1, .int e.1)] [] sh (e.2) L R n cu su) : WX RX12 cX12_sum 4 (some .int) ("sum", []) d mc ms X (px_QF Post mc ms) 9 [(0, .ref 73), (1, .int x1)] [] sh M L R n cu su := by
  have key := lpf_wp (P := (fun a => WX RX12 cX12_sum 4 (some .int) ("sum", []) d mc ms X (px_QF Post mc ms) 9 [(0, .ref 73), (1, .int a.1)] [] sh (a.2) L R n cu su)) (G := (fun t => WX RX12 cX12_sum 4 (some .int) ("sum", []) d mc ms X (px_QF Post mc ms) 89 [(1, .int t.1)] [] sh (t.2) L R n cu su)) (fun a r h g => so_X12_sum_9b (x1 := a.1) (M := a.2) (L := L) (R := R) h_X12_unit hS hd hdr hcu hsu h g) (a := (x1, M)) h g
  exact key
noncomputable def o_X12_sum (r_X12_unit : px_M → Option (Int32 × px_M)) (M : px_M) : Option (Int32 × px_M) :=
  bd1 (o_X12_product r_X12_unit M) fun e_1 =>
  bd1 (f_X12_blanks e_1.2) fun e_6 =>
  bd1 (lpf (fun a : Int32 × px_M => o_X12_sum_9 r_X12_unit a.2 a.1) (e_1.1, e_6)) fun e_9 =>
  some (e_9.1, e_9.2)
theorem so_X12_sum {dr : Nat} {r_X12_unit : px_M → Option (Int32 × px_M)} {d : Nat} {X : Nat × (Nat → Int32)} {sh : px_Sh} {M : px_M} {L : px_L} {R : px_R} {n : Nat} {e : Int32 × px_M} (h_X12_unit : ∀ {d : Nat} {X : Nat × (Nat → Int32)} {sh : px_Sh} {M : px_M} {L : px_L} {R : px_R} {n : Nat} {e : Int32 × px_M}, SR sh R → dr ≤ d → r_X12_unit M = some e → MX yX12_unit cX12_unit 7 (some .int) d 0 0 X [.ref 73] sh M L R n (px_pu (some (.int e.1)) sh e.2 L R n)) (hS : SR sh R) (hd : 3 ≤ d) (hdr : dr + 2 ≤ d) (h : o_X12_sum r_X12_unit M = some e) : MX yX12_sum cX12_sum 4 (some .int) d 0 0 X [.ref 73] sh M L R n (px_pu (some (.int e.1)) sh e.2 L R n) := by
  refine MX.of (by decide +kernel) (by exact Nat.le_of_ble_eq_true rfl) ?_
  have hcu : 0 ≤ 0 := Nat.zero_le _
  have hsu : 0 ≤ 0 := Nat.zero_le _
  have g : px_pu (some (.int e.1)) sh e.2 L R n (some (.int e.1)) sh e.2 L R n := ⟨rfl, rfl, rfl, rfl, rfl, rfl⟩
  unfold o_X12_sum at h
  refine wx_aload_n dX12_sum_0 rfl ?_
  obtain ⟨e_1, k_1, h⟩ := bd1_some h
  refine wx_cVi dX12_sum_1 ml_X12_393 my_X12_product iv_X12_product (sc_73 hS) (by decide) (so_X12_product (d := d - 1) h_X12_unit hS (by omega) (by omega) k_1) rfl (by omega) (by exact Nat.le_of_ble_eq_true rfl) hcu hsu ?_
  refine wx_istore_n (lv' := [(1, _), (0, _)]) dX12_sum_4 (by decide) rfl ?_
  refine wx_aload_n dX12_sum_5 rfl ?_
  obtain ⟨e_6, k_6, h⟩ := bd1_some h
  refine wx_cVv dX12_sum_6 ml_X12_345 my_X12_blanks iv_X12_blanks (sc_73 hS) (by decide) (s_X12_blanks (d := d - 1) hS (by omega) k_6) rfl (by omega) (by exact Nat.le_of_ble_eq_true rfl) hcu hsu ?_
  obtain ⟨e_9, k_9, h⟩ := bd1_some h
  refine wx_sub (so_X12_sum_9 h_X12_unit hS hd hdr hcu hsu k_9 ?_) (px_s rfl (px_s rfl px_0))
  refine wx_iload_n dX12_sum_89 rfl ?_
  refine wx_iret dX12_sum_90 hcu hsu ?_
  obtain rfl := Option.some.inj h
  exact g
noncomputable def o_X12_unit_199 (r_X12_unit : px_M → Option (Int32 × px_M)) (M : px_M) (x5 : Int32) : Option (Int32 × px_M) :=
  bd1 (f_X12_sign M 41) fun e_202 =>
  nm ((e_202 73 80) - 1) fun v_212 =>
  nm (px_u e_202 73 80 v_212) fun M_212 =>
  some (x5, M_212)
theorem so_X12_unit_199 {dr : Nat} {r_X12_unit : px_M → Option (Int32 × px_M)} {x5 : Int32} {M : px_M} {L : px_L} {R : px_R} {e : (Int32 × px_M)} (h_X12_unit : ∀ {d : Nat} {X : Nat × (Nat → Int32)} {sh : px_Sh} {M : px_M} {L : px_L} {R : px_R} {n : Nat} {e : Int32 × px_M}, SR sh R → dr ≤ d → r_X12_unit M = some e → MX yX12_unit cX12_unit 7 (some .int) d 0 0 X [.ref 73] sh M L R n (px_pu (some (.int e.1)) sh e.2 L R n)) (hS : SR sh R) (hd : 6 ≤ d) (hdr : dr + 3 ≤ d) (hcu : cu ≤ mc) (hsu : su ≤ ms) (h : o_X12_unit_199 r_X12_unit M x5 = some e) (g : Post (some (.int (e.1))) sh (e.2) L R n) : WX RX12 cX12_unit 7 (some .int) ("unit", []) d mc ms X (px_QF Post mc ms) 199 [(0, .ref 73), (5, .int x5)] [] sh M L R n cu su := by
  unfold o_X12_unit_199 at h
  refine wx_aload_n dX12_unit_199 rfl ?_
  refine wx_bipush (v := 41) dX12_unit_200 (by decide) ?_
  obtain ⟨e_202, k_202, h⟩ := bd1_some h
  refine wx_cVv dX12_unit_202 ml_X12_387 my_X12_sign iv_X12_sign (sc_73 hS) (by decide) (s_X12_sign (d := d - 1) hS (by omega) k_202) rfl (by omega) (by exact Nat.le_of_ble_eq_true rfl) hcu hsu ?_
  refine wx_aload_n dX12_unit_205 rfl ?_
  refine wx_dup dX12_unit_206 rfl ?_
  refine wx_getI dX12_unit_207 fl_X12_358 (sc_73 hS) rfl ?_
  refine wx_iconst (v := 1) dX12_unit_210 (by decide) ?_
  refine wx_isub dX12_unit_211 ?_
  refine wx_nami (fun v_212 q_212 => ?_)
  replace h := nm_at h q_212
  refine wx_putI dX12_unit_212 fl_X12_358 (sc_73 hS) (Or.inl rfl) rfl ⟨rfl, rfl⟩ ?_
  refine wx_namM (fun M_212 q_212 => ?_)
  replace h := nm_at h q_212
  refine wx_iload dX12_unit_215 rfl ?_
  refine wx_iret dX12_unit_217 hcu hsu ?_
  obtain rfl := Option.some.inj h
  exact g
noncomputable def o_X12_unit_197 (r_X12_unit : px_M → Option (Int32 × px_M)) (M : px_M) (z0 : Int32) : Option (Int32 × px_M) :=
  o_X12_unit_199 r_X12_unit M z0
theorem so_X12_unit_197 {dr : Nat} {r_X12_unit : px_M → Option (Int32 × px_M)} {z0 : Int32} {M : px_M} {L : px_L} {R : px_R} {e : (Int32 × px_M)} (h_X12_unit : ∀ {d : Nat} {X : Nat × (Nat → Int32)} {sh : px_Sh} {M : px_M} {L : px_L} {R : px_R} {n : Nat} {e : Int32 × px_M}, SR sh R → dr ≤ d → r_X12_unit M = some e → MX yX12_unit cX12_unit 7 (some .int) d 0 0 X [.ref 73] sh M L R n (px_pu (some (.int e.1)) sh e.2 L R n)) (hS : SR sh R) (hd : 6 ≤ d) (hdr : dr + 3 ≤ d) (hcu : cu ≤ mc) (hsu : su ≤ ms) (h : o_X12_unit_197 r_X12_unit M z0 = some e) (g : Post (some (.int (e.1))) sh (e.2) L R n) : WX RX12 cX12_unit 7 (some .int) ("unit", []) d mc ms X (px_QF Post mc ms) 197 [(0, .ref 73)] [.int z0] sh M L R n cu su := by
  unfold o_X12_unit_197 at h
  refine wx_istore (lv' := [(5, _), (0, _)]) dX12_unit_197 (by decide) rfl ?_
  exact wx_sub (so_X12_unit_199 h_X12_unit hS hd hdr hcu hsu h g) (px_s rfl (px_s rfl px_0))
noncomputable def o_X12_unit_187 (r_X12_unit : px_M → Option (Int32 × px_M)) (M : px_M) (x5 : Int32) (x6 : Int32) (z0 : Int32) (z1 : Int32) : Option (Int32 × px_M) :=
  if z1 = z0 then
    o_X12_unit_197 r_X12_unit M x6
  else
    o_X12_unit_197 r_X12_unit M x5
theorem so_X12_unit_187 {dr : Nat} {r_X12_unit : px_M → Option (Int32 × px_M)} {x5 : Int32} {x6 : Int32} {z0 : Int32} {z1 : Int32} {M : px_M} {L : px_L} {R : px_R} {e : (Int32 × px_M)} (h_X12_unit : ∀ {d : Nat} {X : Nat × (Nat → Int32)} {sh : px_Sh} {M : px_M} {L : px_L} {R : px_R} {n : Nat} {e : Int32 × px_M}, SR sh R → dr ≤ d → r_X12_unit M = some e → MX yX12_unit cX12_unit 7 (some .int) d 0 0 X [.ref 73] sh M L R n (px_pu (some (.int e.1)) sh e.2 L R n)) (hS : SR sh R) (hd : 6 ≤ d) (hdr : dr + 3 ≤ d) (hcu : cu ≤ mc) (hsu : su ≤ ms) (h : o_X12_unit_187 r_X12_unit M x5 x6 z0 z1 = some e) (g : Post (some (.int (e.1))) sh (e.2) L R n) : WX RX12 cX12_unit 7 (some .int) ("unit", []) d mc ms X (px_QF Post mc ms) 187 [(0, .ref 73), (5, .int x5), (6, .int x6)] [.int z0, .int z1] sh M L R n cu su := by
  unfold o_X12_unit_187 at h
  refine wx_icmp_ne (tgt := 195) dX12_unit_187 (by decide) (fun c_187 => ?_) (fun c_187 => ?_)
  · replace h := it_f h c_187
    refine wx_iload dX12_unit_195 rfl ?_
    exact wx_sub (so_X12_unit_197 h_X12_unit hS hd hdr hcu hsu h g) (px_s rfl px_0)
  · replace h := it_t h c_187
    refine wx_iload dX12_unit_190 rfl ?_
    refine wx_goto (tgt := 197) dX12_unit_192 (by decide) ?_
    exact wx_sub (so_X12_unit_197 h_X12_unit hS hd hdr hcu hsu h g) (px_s rfl px_0)
noncomputable def o_X12_unit_162 (r_X12_unit : px_M → Option (Int32 × px_M)) (M : px_M) (x3 : Int32) (x5 : Int32) : Option (Int32 × px_M) :=
  bd1 (f_X12_sign M 44) fun e_165 =>
  bd1 (o_X12_sum r_X12_unit e_165) fun e_169 =>
  if x5 ≤ e_169.1 then
    o_X12_unit_187 r_X12_unit e_169.2 x5 e_169.1 0 x3
  else
    o_X12_unit_187 r_X12_unit e_169.2 x5 e_169.1 1 x3
theorem so_X12_unit_162 {dr : Nat} {r_X12_unit : px_M → Option (Int32 × px_M)} {x3 : Int32} {x5 : Int32} {M : px_M} {L : px_L} {R : px_R} {e : (Int32 × px_M)} (h_X12_unit : ∀ {d : Nat} {X : Nat × (Nat → Int32)} {sh : px_Sh} {M : px_M} {L : px_L} {R : px_R} {n : Nat} {e : Int32 × px_M}, SR sh R → dr ≤ d → r_X12_unit M = some e → MX yX12_unit cX12_unit 7 (some .int) d 0 0 X [.ref 73] sh M L R n (px_pu (some (.int e.1)) sh e.2 L R n)) (hS : SR sh R) (hd : 6 ≤ d) (hdr : dr + 3 ≤ d) (hcu : cu ≤ mc) (hsu : su ≤ ms) (h : o_X12_unit_162 r_X12_unit M x3 x5 = some e) (g : Post (some (.int (e.1))) sh (e.2) L R n) : WX RX12 cX12_unit 7 (some .int) ("unit", []) d mc ms X (px_QF Post mc ms) 162 [(0, .ref 73), (3, .int x3), (5, .int x5)] [] sh M L R n cu su := by
  unfold o_X12_unit_162 at h
  refine wx_aload_n dX12_unit_162 rfl ?_
  refine wx_bipush (v := 44) dX12_unit_163 (by decide) ?_
  obtain ⟨e_165, k_165, h⟩ := bd1_some h
  refine wx_cVv dX12_unit_165 ml_X12_387 my_X12_sign iv_X12_sign (sc_73 hS) (by decide) (s_X12_sign (d := d - 1) hS (by omega) k_165) rfl (by omega) (by exact Nat.le_of_ble_eq_true rfl) hcu hsu ?_
  refine wx_aload_n dX12_unit_168 rfl ?_
  obtain ⟨e_169, k_169, h⟩ := bd1_some h
  refine wx_cVi dX12_unit_169 ml_X12_384 my_X12_sum iv_X12_sum (sc_73 hS) (by decide) (so_X12_sum (d := d - 1) h_X12_unit hS (by omega) (by omega) k_169) rfl (by omega) (by exact Nat.le_of_ble_eq_true rfl) hcu hsu ?_
  refine wx_istore (lv' := [(6, _), (0, _), (3, _), (5, _)]) dX12_unit_172 (by decide) rfl ?_
  refine wx_iload_n dX12_unit_174 rfl ?_
  refine wx_iload dX12_unit_175 rfl ?_
  refine wx_iload dX12_unit_177 rfl ?_
  refine wx_icmp_ge (tgt := 186) dX12_unit_179 (by decide) (fun c_179 => ?_) (fun c_179 => ?_)
  · replace h := it_t h c_179
    refine wx_iconst (v := 0) dX12_unit_186 (by decide) ?_
    exact wx_sub (so_X12_unit_187 h_X12_unit hS hd hdr hcu hsu h g) (px_s rfl (px_s rfl (px_s rfl px_0)))
  · replace h := it_f h c_179
    refine wx_iconst (v := 1) dX12_unit_182 (by decide) ?_
    refine wx_goto (tgt := 187) dX12_unit_183 (by decide) ?_
    exact wx_sub (so_X12_unit_187 h_X12_unit hS hd hdr hcu hsu h g) (px_s rfl (px_s rfl (px_s rfl px_0)))
noncomputable def o_X12_unit_114 (r_X12_unit : px_M → Option (Int32 × px_M)) (M : px_M) (x3 : Int32) (x4 : Int32) : Option (Int32 × px_M) :=
  bd1 (f_X12_blanks M) fun e_115 =>
  bd1 (f_X12_byteAt e_115 (e_115 73 78)) fun e_123 =>
  if e_123 = 40 then
    bd1 (f_X12_opens e_115 1) fun e_144 =>
    bd1 (o_X12_sum r_X12_unit e_144) fun e_148 =>
    if x3 = 0 then
      if x4 = 0 then
        o_X12_unit_199 r_X12_unit e_148.2 e_148.1
      else
        o_X12_unit_162 r_X12_unit e_148.2 x3 e_148.1
    else
      o_X12_unit_162 r_X12_unit e_148.2 x3 e_148.1
  else
    bd1 (f_X12_wrong e_115 1 (e_115 73 78)) fun e_137 =>
    some (0, e_137)
theorem so_X12_unit_114 {dr : Nat} {r_X12_unit : px_M → Option (Int32 × px_M)} {x3 : Int32} {x4 : Int32} {M : px_M} {L : px_L} {R : px_R} {e : (Int32 × px_M)} (h_X12_unit : ∀ {d : Nat} {X : Nat × (Nat → Int32)} {sh : px_Sh} {M : px_M} {L : px_L} {R : px_R} {n : Nat} {e : Int32 × px_M}, SR sh R → dr ≤ d → r_X12_unit M = some e → MX yX12_unit cX12_unit 7 (some .int) d 0 0 X [.ref 73] sh M L R n (px_pu (some (.int e.1)) sh e.2 L R n)) (hS : SR sh R) (hd : 6 ≤ d) (hdr : dr + 3 ≤ d) (hcu : cu ≤ mc) (hsu : su ≤ ms) (h : o_X12_unit_114 r_X12_unit M x3 x4 = some e) (g : Post (some (.int (e.1))) sh (e.2) L R n) : WX RX12 cX12_unit 7 (some .int) ("unit", []) d mc ms X (px_QF Post mc ms) 114 [(0, .ref 73), (3, .int x3), (4, .int x4)] [] sh M L R n cu su := by
  unfold o_X12_unit_114 at h
  refine wx_aload_n dX12_unit_114 rfl ?_
  obtain ⟨e_115, k_115, h⟩ := bd1_some h
  refine wx_cVv dX12_unit_115 ml_X12_345 my_X12_blanks iv_X12_blanks (sc_73 hS) (by decide) (s_X12_blanks (d := d - 1) hS (by omega) k_115) rfl (by omega) (by exact Nat.le_of_ble_eq_true rfl) hcu hsu ?_
  refine wx_aload_n dX12_unit_118 rfl ?_
  refine wx_aload_n dX12_unit_119 rfl ?_
  refine wx_getI dX12_unit_120 fl_X12_333 (sc_73 hS) rfl ?_
  obtain ⟨e_123, k_123, h⟩ := bd1_some h
  refine wx_cVi dX12_unit_123 ml_X12_336 my_X12_byteAt iv_X12_byteAt (sc_73 hS) (by decide) (s_X12_byteAt (d := d - 1) hS (by omega) k_123) rfl (by omega) (by exact Nat.le_of_ble_eq_true rfl) hcu hsu ?_
  refine wx_bipush (v := 40) dX12_unit_126 (by decide) ?_
  refine wx_icmp_eq (tgt := 142) dX12_unit_128 (by decide) (fun c_128 => ?_) (fun c_128 => ?_)
  · replace h := it_t h c_128
    refine wx_aload_n dX12_unit_142 rfl ?_
    refine wx_iconst (v := 1) dX12_unit_143 (by decide) ?_
    obtain ⟨e_144, k_144, h⟩ := bd1_some h
    refine wx_cVv dX12_unit_144 ml_X12_380 my_X12_opens iv_X12_opens (sc_73 hS) (by decide) (s_X12_opens (d := d - 1) hS (by omega) k_144) rfl (by omega) (by exact Nat.le_of_ble_eq_true rfl) hcu hsu ?_
    refine wx_aload_n dX12_unit_147 rfl ?_
    obtain ⟨e_148, k_148, h⟩ := bd1_some h
    refine wx_cVi dX12_unit_148 ml_X12_384 my_X12_sum iv_X12_sum (sc_73 hS) (by decide) (so_X12_sum (d := d - 1) h_X12_unit hS (by omega) (by omega) k_148) rfl (by omega) (by exact Nat.le_of_ble_eq_true rfl) hcu hsu ?_
    refine wx_istore (lv' := [(5, _), (0, _), (3, _), (4, _)]) dX12_unit_151 (by decide) rfl ?_
    refine wx_iload_n dX12_unit_153 rfl ?_
    refine wx_if_ne (tgt := 162) dX12_unit_154 (by decide) (fun c_154 => ?_) (fun c_154 => ?_)
    · replace h := it_f h c_154
      exact wx_sub (so_X12_unit_162 h_X12_unit hS hd hdr hcu hsu h g) (px_s rfl (px_s rfl (px_s rfl px_0)))
    · replace h := it_t h c_154
      refine wx_iload dX12_unit_157 rfl ?_
      refine wx_if_eq (tgt := 199) dX12_unit_159 (by decide) (fun c_159 => ?_) (fun c_159 => ?_)
      · replace h := it_t h c_159
        exact wx_sub (so_X12_unit_199 h_X12_unit hS hd hdr hcu hsu h g) (px_s rfl (px_s rfl px_0))
      · replace h := it_f h c_159
        exact wx_sub (so_X12_unit_162 h_X12_unit hS hd hdr hcu hsu h g) (px_s rfl (px_s rfl (px_s rfl px_0)))
  · replace h := it_f h c_128
    refine wx_aload_n dX12_unit_131 rfl ?_
    refine wx_iconst (v := 1) dX12_unit_132 (by decide) ?_
    refine wx_aload_n dX12_unit_133 rfl ?_
    refine wx_getI dX12_unit_134 fl_X12_333 (sc_73 hS) rfl ?_
    obtain ⟨e_137, k_137, h⟩ := bd1_some h
    refine wx_cVv dX12_unit_137 ml_X12_351 my_X12_wrong iv_X12_wrong (sc_73 hS) (by decide) (s_X12_wrong (d := d - 1) hS (by omega) k_137) rfl (by omega) (by exact Nat.le_of_ble_eq_true rfl) hcu hsu ?_
    refine wx_iconst (v := 0) dX12_unit_140 (by decide) ?_
    refine wx_iret dX12_unit_141 hcu hsu ?_
    obtain rfl := Option.some.inj h
    exact g
noncomputable def o_X12_unit_110 (r_X12_unit : px_M → Option (Int32 × px_M)) (M : px_M) (x3 : Int32) (x4 : Int32) : Option (Int32 × px_M) :=
  bd1 (f_X12_skipWord M) fun e_111 =>
  o_X12_unit_114 r_X12_unit e_111 x3 x4
theorem so_X12_unit_110 {dr : Nat} {r_X12_unit : px_M → Option (Int32 × px_M)} {x3 : Int32} {x4 : Int32} {M : px_M} {L : px_L} {R : px_R} {e : (Int32 × px_M)} (h_X12_unit : ∀ {d : Nat} {X : Nat × (Nat → Int32)} {sh : px_Sh} {M : px_M} {L : px_L} {R : px_R} {n : Nat} {e : Int32 × px_M}, SR sh R → dr ≤ d → r_X12_unit M = some e → MX yX12_unit cX12_unit 7 (some .int) d 0 0 X [.ref 73] sh M L R n (px_pu (some (.int e.1)) sh e.2 L R n)) (hS : SR sh R) (hd : 6 ≤ d) (hdr : dr + 3 ≤ d) (hcu : cu ≤ mc) (hsu : su ≤ ms) (h : o_X12_unit_110 r_X12_unit M x3 x4 = some e) (g : Post (some (.int (e.1))) sh (e.2) L R n) : WX RX12 cX12_unit 7 (some .int) ("unit", []) d mc ms X (px_QF Post mc ms) 110 [(0, .ref 73), (3, .int x3), (4, .int x4)] [] sh M L R n cu su := by
  unfold o_X12_unit_110 at h
  refine wx_aload_n dX12_unit_110 rfl ?_
  obtain ⟨e_111, k_111, h⟩ := bd1_some h
  refine wx_cVv dX12_unit_111 ml_X12_374 my_X12_skipWord iv_X12_skipWord (sc_73 hS) (by decide) (s_X12_skipWord (d := d - 1) hS (by omega) k_111) rfl (by omega) (by exact Nat.le_of_ble_eq_true rfl) hcu hsu ?_
  exact wx_sub (so_X12_unit_114 h_X12_unit hS hd hdr hcu hsu h g) (px_s rfl (px_s rfl (px_s rfl px_0)))
noncomputable def o_X12_unit_99 (r_X12_unit : px_M → Option (Int32 × px_M)) (M : px_M) (x3 : Int32) (z0 : Int32) : Option (Int32 × px_M) :=
  if x3 = 0 then
    if z0 = 0 then
      o_X12_unit_114 r_X12_unit M x3 z0
    else
      o_X12_unit_110 r_X12_unit M x3 z0
  else
    o_X12_unit_110 r_X12_unit M x3 z0
theorem so_X12_unit_99 {dr : Nat} {r_X12_unit : px_M → Option (Int32 × px_M)} {x3 : Int32} {z0 : Int32} {M : px_M} {L : px_L} {R : px_R} {e : (Int32 × px_M)} (h_X12_unit : ∀ {d : Nat} {X : Nat × (Nat → Int32)} {sh : px_Sh} {M : px_M} {L : px_L} {R : px_R} {n : Nat} {e : Int32 × px_M}, SR sh R → dr ≤ d → r_X12_unit M = some e → MX yX12_unit cX12_unit 7 (some .int) d 0 0 X [.ref 73] sh M L R n (px_pu (some (.int e.1)) sh e.2 L R n)) (hS : SR sh R) (hd : 6 ≤ d) (hdr : dr + 3 ≤ d) (hcu : cu ≤ mc) (hsu : su ≤ ms) (h : o_X12_unit_99 r_X12_unit M x3 z0 = some e) (g : Post (some (.int (e.1))) sh (e.2) L R n) : WX RX12 cX12_unit 7 (some .int) ("unit", []) d mc ms X (px_QF Post mc ms) 99 [(0, .ref 73), (3, .int x3)] [.int z0] sh M L R n cu su := by
  unfold o_X12_unit_99 at h
  refine wx_istore (lv' := [(4, _), (0, _), (3, _)]) dX12_unit_99 (by decide) rfl ?_
  refine wx_iload_n dX12_unit_101 rfl ?_
  refine wx_if_ne (tgt := 110) dX12_unit_102 (by decide) (fun c_102 => ?_) (fun c_102 => ?_)
  · replace h := it_f h c_102
    exact wx_sub (so_X12_unit_110 h_X12_unit hS hd hdr hcu hsu h g) (px_s rfl (px_s rfl (px_s rfl px_0)))
  · replace h := it_t h c_102
    refine wx_iload dX12_unit_105 rfl ?_
    refine wx_if_eq (tgt := 114) dX12_unit_107 (by decide) (fun c_107 => ?_) (fun c_107 => ?_)
    · replace h := it_t h c_107
      exact wx_sub (so_X12_unit_114 h_X12_unit hS hd hdr hcu hsu h g) (px_s rfl (px_s rfl (px_s rfl px_0)))
    · replace h := it_f h c_107
      exact wx_sub (so_X12_unit_110 h_X12_unit hS hd hdr hcu hsu h g) (px_s rfl (px_s rfl (px_s rfl px_0)))
noncomputable def o_X12_unit_77 (r_X12_unit : px_M → Option (Int32 × px_M)) (M : px_M) (x2 : Int32) (z0 : Int32) : Option (Int32 × px_M) :=
  bd1 (f_X12_word 13 15 19 20 0) fun e_88 =>
  if x2 = e_88 then
    o_X12_unit_99 r_X12_unit M z0 1
  else
    o_X12_unit_99 r_X12_unit M z0 0
theorem so_X12_unit_77 {dr : Nat} {r_X12_unit : px_M → Option (Int32 × px_M)} {x2 : Int32} {z0 : Int32} {M : px_M} {L : px_L} {R : px_R} {e : (Int32 × px_M)} (h_X12_unit : ∀ {d : Nat} {X : Nat × (Nat → Int32)} {sh : px_Sh} {M : px_M} {L : px_L} {R : px_R} {n : Nat} {e : Int32 × px_M}, SR sh R → dr ≤ d → r_X12_unit M = some e → MX yX12_unit cX12_unit 7 (some .int) d 0 0 X [.ref 73] sh M L R n (px_pu (some (.int e.1)) sh e.2 L R n)) (hS : SR sh R) (hd : 6 ≤ d) (hdr : dr + 3 ≤ d) (hcu : cu ≤ mc) (hsu : su ≤ ms) (h : o_X12_unit_77 r_X12_unit M x2 z0 = some e) (g : Post (some (.int (e.1))) sh (e.2) L R n) : WX RX12 cX12_unit 7 (some .int) ("unit", []) d mc ms X (px_QF Post mc ms) 77 [(0, .ref 73), (2, .int x2)] [.int z0] sh M L R n cu su := by
  unfold o_X12_unit_77 at h
  refine wx_istore_n (lv' := [(3, _), (0, _), (2, _)]) dX12_unit_77 (by decide) rfl ?_
  refine wx_iload_n dX12_unit_78 rfl ?_
  refine wx_bipush (v := 13) dX12_unit_79 (by decide) ?_
  refine wx_bipush (v := 15) dX12_unit_81 (by decide) ?_
  refine wx_bipush (v := 19) dX12_unit_83 (by decide) ?_
  refine wx_bipush (v := 20) dX12_unit_85 (by decide) ?_
  refine wx_iconst (v := 0) dX12_unit_87 (by decide) ?_
  obtain ⟨e_88, k_88, h⟩ := bd1_some h
  refine wx_cSi dX12_unit_88 ml_X12_364 my_X12_word sv_X12_word (s_X12_word (d := d - 1) hS (by omega) k_88) rfl (by omega) (by exact Nat.le_of_ble_eq_true rfl) hcu hsu ?_
  refine wx_icmp_ne (tgt := 98) dX12_unit_91 (by decide) (fun c_91 => ?_) (fun c_91 => ?_)
  · replace h := it_f h c_91
    refine wx_iconst (v := 0) dX12_unit_98 (by decide) ?_
    exact wx_sub (so_X12_unit_99 h_X12_unit hS hd hdr hcu hsu h g) (px_s rfl (px_s rfl px_0))
  · replace h := it_t h c_91
    refine wx_iconst (v := 1) dX12_unit_94 (by decide) ?_
    refine wx_goto (tgt := 99) dX12_unit_95 (by decide) ?_
    exact wx_sub (so_X12_unit_99 h_X12_unit hS hd hdr hcu hsu h g) (px_s rfl (px_s rfl px_0))
noncomputable def o_X12_unit (r_X12_unit : px_M → Option (Int32 × px_M)) (M : px_M) : Option (Int32 × px_M) :=
  if (M 73 81) = 0 then
    bd1 (f_X12_blanks M) fun e_10 =>
    bd1 (f_X12_byteAt e_10 (e_10 73 78)) fun e_18 =>
    bd1 (f_X12_isDigit e_18) fun e_21 =>
    if e_21 = 0 then
      bd1 (f_X12_nameHere e_10) fun e_33 =>
      bd1 (f_X12_wordHere e_33.2) fun e_38 =>
      if e_33.1 = (-1) then
        bd1 (f_X12_word 12 5 1 19 20) fun e_66 =>
        if e_38.1 = e_66 then
          o_X12_unit_77 r_X12_unit e_38.2 e_38.1 1
        else
          o_X12_unit_77 r_X12_unit e_38.2 e_38.1 0
      else
        bd1 (f_X12_skipWord e_38.2) fun e_48 =>
        bd1 (f_X12_named e_48 e_33.1) fun e_53 =>
        some (e_53, e_48)
    else
      bd1 (f_X12_number e_10) fun e_28 =>
      some (e_28.1, e_28.2)
  else
    some (0, M)
theorem so_X12_unit {dr : Nat} {r_X12_unit : px_M → Option (Int32 × px_M)} {d : Nat} {X : Nat × (Nat → Int32)} {sh : px_Sh} {M : px_M} {L : px_L} {R : px_R} {n : Nat} {e : Int32 × px_M} (h_X12_unit : ∀ {d : Nat} {X : Nat × (Nat → Int32)} {sh : px_Sh} {M : px_M} {L : px_L} {R : px_R} {n : Nat} {e : Int32 × px_M}, SR sh R → dr ≤ d → r_X12_unit M = some e → MX yX12_unit cX12_unit 7 (some .int) d 0 0 X [.ref 73] sh M L R n (px_pu (some (.int e.1)) sh e.2 L R n)) (hS : SR sh R) (hd : 6 ≤ d) (hdr : dr + 3 ≤ d) (h : o_X12_unit r_X12_unit M = some e) : MX yX12_unit cX12_unit 7 (some .int) d 0 0 X [.ref 73] sh M L R n (px_pu (some (.int e.1)) sh e.2 L R n) := by
  refine MX.of (by decide +kernel) (by exact Nat.le_of_ble_eq_true rfl) ?_
  have hcu : 0 ≤ 0 := Nat.zero_le _
  have hsu : 0 ≤ 0 := Nat.zero_le _
  have g : px_pu (some (.int e.1)) sh e.2 L R n (some (.int e.1)) sh e.2 L R n := ⟨rfl, rfl, rfl, rfl, rfl, rfl⟩
  unfold o_X12_unit at h
  refine wx_aload_n dX12_unit_0 rfl ?_
  refine wx_getI dX12_unit_1 fl_X12_339 (sc_73 hS) rfl ?_
  refine wx_if_eq (tgt := 9) dX12_unit_4 (by decide) (fun c_4 => ?_) (fun c_4 => ?_)
  · replace h := it_t h c_4
    refine wx_aload_n dX12_unit_9 rfl ?_
    obtain ⟨e_10, k_10, h⟩ := bd1_some h
    refine wx_cVv dX12_unit_10 ml_X12_345 my_X12_blanks iv_X12_blanks (sc_73 hS) (by decide) (s_X12_blanks (d := d - 1) hS (by omega) k_10) rfl (by omega) (by exact Nat.le_of_ble_eq_true rfl) hcu hsu ?_
    refine wx_aload_n dX12_unit_13 rfl ?_
    refine wx_aload_n dX12_unit_14 rfl ?_
    refine wx_getI dX12_unit_15 fl_X12_333 (sc_73 hS) rfl ?_
    obtain ⟨e_18, k_18, h⟩ := bd1_some h
    refine wx_cVi dX12_unit_18 ml_X12_336 my_X12_byteAt iv_X12_byteAt (sc_73 hS) (by decide) (s_X12_byteAt (d := d - 1) hS (by omega) k_18) rfl (by omega) (by exact Nat.le_of_ble_eq_true rfl) hcu hsu ?_
    obtain ⟨e_21, k_21, h⟩ := bd1_some h
    refine wx_cSi dX12_unit_21 ml_X12_354 my_X12_isDigit sv_X12_isDigit (s_X12_isDigit (d := d - 1) hS (by omega) k_21) rfl (by omega) (by exact Nat.le_of_ble_eq_true rfl) hcu hsu ?_
    refine wx_if_eq (tgt := 32) dX12_unit_24 (by decide) (fun c_24 => ?_) (fun c_24 => ?_)
    · replace h := it_t h c_24
      refine wx_aload_n dX12_unit_32 rfl ?_
      obtain ⟨e_33, k_33, h⟩ := bd1_some h
      refine wx_cVi dX12_unit_33 ml_X12_371 my_X12_nameHere iv_X12_nameHere (sc_73 hS) (by decide) (s_X12_nameHere (d := d - 1) hS (by omega) k_33) rfl (by omega) (by exact Nat.le_of_ble_eq_true rfl) hcu hsu ?_
      refine wx_istore_n (lv' := [(1, _), (0, _)]) dX12_unit_36 (by decide) rfl ?_
      refine wx_aload_n dX12_unit_37 rfl ?_
      obtain ⟨e_38, k_38, h⟩ := bd1_some h
      refine wx_cVi dX12_unit_38 ml_X12_361 my_X12_wordHere iv_X12_wordHere (sc_73 hS) (by decide) (s_X12_wordHere (d := d - 1) hS (by omega) k_38) rfl (by omega) (by exact Nat.le_of_ble_eq_true rfl) hcu hsu ?_
      refine wx_istore_n (lv' := [(2, _), (1, _), (0, _)]) dX12_unit_41 (by decide) rfl ?_
      refine wx_iload_n dX12_unit_42 rfl ?_
      refine wx_iconst (v := (-1)) dX12_unit_43 (by decide) ?_
      refine wx_icmp_eq (tgt := 57) dX12_unit_44 (by decide) (fun c_44 => ?_) (fun c_44 => ?_)
      · replace h := it_t h c_44
        refine wx_iload_n dX12_unit_57 rfl ?_
        refine wx_bipush (v := 12) dX12_unit_58 (by decide) ?_
        refine wx_iconst (v := 5) dX12_unit_60 (by decide) ?_
        refine wx_iconst (v := 1) dX12_unit_61 (by decide) ?_
        refine wx_bipush (v := 19) dX12_unit_62 (by decide) ?_
        refine wx_bipush (v := 20) dX12_unit_64 (by decide) ?_
        obtain ⟨e_66, k_66, h⟩ := bd1_some h
        refine wx_cSi dX12_unit_66 ml_X12_364 my_X12_word sv_X12_word (s_X12_word (d := d - 1) hS (by omega) k_66) rfl (by omega) (by exact Nat.le_of_ble_eq_true rfl) hcu hsu ?_
        refine wx_icmp_ne (tgt := 76) dX12_unit_69 (by decide) (fun c_69 => ?_) (fun c_69 => ?_)
        · replace h := it_f h c_69
          refine wx_iconst (v := 0) dX12_unit_76 (by decide) ?_
          exact wx_sub (so_X12_unit_77 h_X12_unit hS hd hdr hcu hsu h g) (px_s rfl (px_s rfl px_0))
        · replace h := it_t h c_69
          refine wx_iconst (v := 1) dX12_unit_72 (by decide) ?_
          refine wx_goto (tgt := 77) dX12_unit_73 (by decide) ?_
          exact wx_sub (so_X12_unit_77 h_X12_unit hS hd hdr hcu hsu h g) (px_s rfl (px_s rfl px_0))
      · replace h := it_f h c_44
        refine wx_aload_n dX12_unit_47 rfl ?_
        obtain ⟨e_48, k_48, h⟩ := bd1_some h
        refine wx_cVv dX12_unit_48 ml_X12_374 my_X12_skipWord iv_X12_skipWord (sc_73 hS) (by decide) (s_X12_skipWord (d := d - 1) hS (by omega) k_48) rfl (by omega) (by exact Nat.le_of_ble_eq_true rfl) hcu hsu ?_
        refine wx_aload_n dX12_unit_51 rfl ?_
        refine wx_iload_n dX12_unit_52 rfl ?_
        obtain ⟨e_53, k_53, h⟩ := bd1_some h
        refine wx_cVi dX12_unit_53 ml_X12_377 my_X12_named iv_X12_named (sc_73 hS) (by decide) (s_X12_named (d := d - 1) hS (by omega) k_53) rfl (by omega) (by exact Nat.le_of_ble_eq_true rfl) hcu hsu ?_
        refine wx_iret dX12_unit_56 hcu hsu ?_
        obtain rfl := Option.some.inj h
        exact g
    · replace h := it_f h c_24
      refine wx_aload_n dX12_unit_27 rfl ?_
      obtain ⟨e_28, k_28, h⟩ := bd1_some h
      refine wx_cVi dX12_unit_28 ml_X12_368 my_X12_number iv_X12_number (sc_73 hS) (by decide) (s_X12_number (d := d - 1) hS (by omega) k_28) rfl (by omega) (by exact Nat.le_of_ble_eq_true rfl) hcu hsu ?_
      refine wx_iret dX12_unit_31 hcu hsu ?_
      obtain rfl := Option.some.inj h
      exact g
  · replace h := it_f h c_4
    refine wx_iconst (v := 0) dX12_unit_7 (by decide) ?_
    refine wx_iret dX12_unit_8 hcu hsu ?_
    obtain rfl := Option.some.inj h
    exact g
noncomputable def k_X12_unit : Nat → px_M → Option (Int32 × px_M)
  | 0 => fun _ => none
  | k + 1 => fun M => o_X12_unit (k_X12_unit k) M
theorem sk_X12_unit : ∀ (k : Nat) {d : Nat} {X : Nat × (Nat → Int32)} {sh : px_Sh} {M : px_M} {L : px_L} {R : px_R} {n : Nat} {e : Int32 × px_M}, SR sh R → 6 + 3 * k ≤ d → k_X12_unit k M = some e → MX yX12_unit cX12_unit 7 (some .int) d 0 0 X [.ref 73] sh M L R n (px_pu (some (.int e.1)) sh e.2 L R n)
  | 0, _, _, _, _, _, _, _, _, _, _, h => by cases h
  | k + 1, d, X, sh, M, L, R, n, e, hS, hd, h => so_X12_unit (dr := 6 + 3 * k) (r_X12_unit := k_X12_unit k) (fun hS hd h => sk_X12_unit k hS hd h) hS (by omega) (by omega) h
noncomputable def f_X12_unit (M : px_M) : Option (Int32 × px_M) := k_X12_unit 9 M
theorem s_X12_unit {d : Nat} {X : Nat × (Nat → Int32)} {sh : px_Sh} {M : px_M} {L : px_L} {R : px_R} {n : Nat} {e : Int32 × px_M} (hS : SR sh R) (hd : 33 ≤ d) (h : f_X12_unit M = some e) : MX yX12_unit cX12_unit 7 (some .int) d 0 0 X [.ref 73] sh M L R n (px_pu (some (.int e.1)) sh e.2 L R n) := sk_X12_unit 9 hS (by omega) h
noncomputable def f_X12_product (M : px_M) : Option (Int32 × px_M) := o_X12_product f_X12_unit M
theorem s_X12_product {d : Nat} {X : Nat × (Nat → Int32)} {sh : px_Sh} {M : px_M} {L : px_L} {R : px_R} {n : Nat} {e : Int32 × px_M} (hS : SR sh R) (hd : 34 ≤ d) (h : f_X12_product M = some e) : MX yX12_product cX12_product 4 (some .int) d 0 0 X [.ref 73] sh M L R n (px_pu (some (.int e.1)) sh e.2 L R n) := so_X12_product (dr := 33) (r_X12_unit := f_X12_unit) (fun hS hd h => s_X12_unit hS hd h) hS (by omega) (by omega) h
noncomputable def f_X12_sum (M : px_M) : Option (Int32 × px_M) := o_X12_sum f_X12_unit M
theorem s_X12_sum {d : Nat} {X : Nat × (Nat → Int32)} {sh : px_Sh} {M : px_M} {L : px_L} {R : px_R} {n : Nat} {e : Int32 × px_M} (hS : SR sh R) (hd : 35 ≤ d) (h : f_X12_sum M = some e) : MX yX12_sum cX12_sum 4 (some .int) d 0 0 X [.ref 73] sh M L R n (px_pu (some (.int e.1)) sh e.2 L R n) := so_X12_sum (dr := 33) (r_X12_unit := f_X12_unit) (fun hS hd h => s_X12_unit hS hd h) hS (by omega) (by omega) h
end LIFT
