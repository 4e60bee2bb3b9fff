/-! Rules and Reader -/
section LIFT
variable {d mc ms : Nat} {X : Nat × (Nat → Int32)} {Post : px_Post} {sh : px_Sh} {n cu su : Nat}
noncomputable def f_X7_work_148 (z0 : Int32) : Option (Int32) :=
  some z0
theorem s_X7_work_148 {z0 : Int32} {M : px_M} {L : px_L} {R : px_R} {e : (Int32)} (hS : SR sh R) (hd : 1 ≤ d) (hcu : cu ≤ mc) (hsu : su ≤ ms) (h : f_X7_work_148 z0 = some e) (g : Post (some (.int e)) sh M L R n) : WX RX7 cX7_work 3 (some .int) ("work", []) d mc ms X (px_QF Post mc ms) 148 [] [.int z0] sh M L R n cu su := by
  unfold f_X7_work_148 at h
  refine wx_iret dX7_work_148 hcu hsu ?_
  obtain rfl := Option.some.inj h
  exact g
noncomputable def f_X7_work_137 (z0 : Int32) : Option (Int32) :=
  some z0
theorem s_X7_work_137 {z0 : Int32} {M : px_M} {L : px_L} {R : px_R} {e : (Int32)} (hS : SR sh R) (hd : 1 ≤ d) (hcu : cu ≤ mc) (hsu : su ≤ ms) (h : f_X7_work_137 z0 = some e) (g : Post (some (.int e)) sh M L R n) : WX RX7 cX7_work 3 (some .int) ("work", []) d mc ms X (px_QF Post mc ms) 137 [] [.int z0] sh M L R n cu su := by
  unfold f_X7_work_137 at h
  refine wx_iret dX7_work_137 hcu hsu ?_
  obtain rfl := Option.some.inj h
  exact g
noncomputable def f_X7_work_126 (z0 : Int32) : Option (Int32) :=
  some z0
theorem s_X7_work_126 {z0 : Int32} {M : px_M} {L : px_L} {R : px_R} {e : (Int32)} (hS : SR sh R) (hd : 1 ≤ d) (hcu : cu ≤ mc) (hsu : su ≤ ms) (h : f_X7_work_126 z0 = some e) (g : Post (some (.int e)) sh M L R n) : WX RX7 cX7_work 3 (some .int) ("work", []) d mc ms X (px_QF Post mc ms) 126 [] [.int z0] sh M L R n cu su := by
  unfold f_X7_work_126 at h
  refine wx_iret dX7_work_126 hcu hsu ?_
  obtain rfl := Option.some.inj h
  exact g
noncomputable def f_X7_work_115 (z0 : Int32) : Option (Int32) :=
  some z0
theorem s_X7_work_115 {z0 : Int32} {M : px_M} {L : px_L} {R : px_R} {e : (Int32)} (hS : SR sh R) (hd : 1 ≤ d) (hcu : cu ≤ mc) (hsu : su ≤ ms) (h : f_X7_work_115 z0 = some e) (g : Post (some (.int e)) sh M L R n) : WX RX7 cX7_work 3 (some .int) ("work", []) d mc ms X (px_QF Post mc ms) 115 [] [.int z0] sh M L R n cu su := by
  unfold f_X7_work_115 at h
  refine wx_iret dX7_work_115 hcu hsu ?_
  obtain rfl := Option.some.inj h
  exact g
noncomputable def f_X7_work (p0 : Int32) (p1 : Int32) (p2 : Int32) : Option (Int32) :=
  if p0 = 42 then
    some (p1 * p2)
  else if p0 = 43 then
    some (p1 + p2)
  else if p0 = 45 then
    some (p1 - p2)
  else if p0 = 47 then
    if p2 = 0 then
      f_X7_work_115 0
    else
      ok (nz p2 0) <|
      f_X7_work_115 (p1 / p2)
  else if p0 = 60 then
    if p2 ≤ p1 then
      f_X7_work_126 0
    else
      f_X7_work_126 1
  else if p0 = 61 then
    if p1 = p2 then
      f_X7_work_148 1
    else
      f_X7_work_148 0
  else if p0 = 62 then
    if p1 ≤ p2 then
      f_X7_work_137 0
    else
      f_X7_work_137 1
  else if p0 = 304 then
    some (p1 ||| p2)
  else if p0 = 305 then
    some (p1 &&& p2)
  else if p0 = 314 then
    bd1 (f_J9_min_7cf53 p1 p2) fun e_159 =>
    some e_159
  else bd1 (f_J9_max_7cf53 p1 p2) fun e_165 =>
  some e_165
theorem s_X7_work {d : Nat} {X : Nat × (Nat → Int32)} {sh : px_Sh} {M : px_M} {L : px_L} {R : px_R} {n : Nat} {p0 : Int32} {p1 : Int32} {p2 : Int32} {e : Int32} (hS : SR sh R) (hd : 1 ≤ d) (h : f_X7_work p0 p1 p2 = some e) : MX yX7_work cX7_work 3 (some .int) d 0 0 X [.int p0, .int p1, .int p2] sh M L R n (px_pu (some (.int e)) sh M L R n) := by
  refine MX.of (by decide +kernel) (by exact Nat.le_of_ble_eq_true rfl) ?_
  have hcu : 0 ≤ 0 := Nat.zero_le _
  have hsu : 0 ≤ 0 := Nat.zero_le _
  have g : px_pu (some (.int e)) sh M L R n (some (.int e)) sh M L R n := ⟨rfl, rfl, rfl, rfl, rfl, rfl⟩
  unfold f_X7_work at h
  refine wx_iload_n dX7_work_0 rfl ?_
  by_cases c_1_42 : p0 = 42
  · replace h := it_t h c_1_42
    refine wx_lsk (tgt := 100) (off := 99) dX7_work_1 (by decide) c_1_42 (by decide) (by decide) ?_
    refine wx_iload_n dX7_work_100 rfl ?_
    refine wx_iload_n dX7_work_101 rfl ?_
    refine wx_imul dX7_work_102 ?_
    refine wx_iret dX7_work_103 hcu hsu ?_
    obtain rfl := Option.some.inj h
    exact g
  replace h := it_f h c_1_42
  by_cases c_1_43 : p0 = 43
  · replace h := it_t h c_1_43
    refine wx_lsk (tgt := 92) (off := 91) dX7_work_1 (by decide) c_1_43 (by decide) (by decide) ?_
    refine wx_iload_n dX7_work_92 rfl ?_
    refine wx_iload_n dX7_work_93 rfl ?_
    refine wx_iadd dX7_work_94 ?_
    refine wx_iret dX7_work_95 hcu hsu ?_
    obtain rfl := Option.some.inj h
    exact g
  replace h := it_f h c_1_43
  by_cases c_1_45 : p0 = 45
  · replace h := it_t h c_1_45
    refine wx_lsk (tgt := 96) (off := 95) dX7_work_1 (by decide) c_1_45 (by decide) (by decide) ?_
    refine wx_iload_n dX7_work_96 rfl ?_
    refine wx_iload_n dX7_work_97 rfl ?_
    refine wx_isub dX7_work_98 ?_
    refine wx_iret dX7_work_99 hcu hsu ?_
    obtain rfl := Option.some.inj h
    exact g
  replace h := it_f h c_1_45
  by_cases c_1_47 : p0 = 47
  · replace h := it_t h c_1_47
    refine wx_lsk (tgt := 104) (off := 103) dX7_work_1 (by decide) c_1_47 (by decide) (by decide) ?_
    refine wx_iload_n dX7_work_104 rfl ?_
    refine wx_if_ne (tgt := 112) dX7_work_105 (by decide) (fun c_105 => ?_) (fun c_105 => ?_)
    · replace h := it_f h c_105
      refine wx_iload_n dX7_work_112 rfl ?_
      refine wx_iload_n dX7_work_113 rfl ?_
      obtain ⟨w_114, h⟩ := ok_some h
      refine wx_idiv dX7_work_114 (nz_n w_114) ?_
      exact wx_sub (s_X7_work_115 hS hd hcu hsu h g) px_0
    · replace h := it_t h c_105
      refine wx_iconst (v := 0) dX7_work_108 (by decide) ?_
      refine wx_goto (tgt := 115) dX7_work_109 (by decide) ?_
      exact wx_sub (s_X7_work_115 hS hd hcu hsu h g) px_0
  replace h := it_f h c_1_47
  by_cases c_1_60 : p0 = 60
  · replace h := it_t h c_1_60
    refine wx_lsk (tgt := 116) (off := 115) dX7_work_1 (by decide) c_1_60 (by decide) (by decide) ?_
    refine wx_iload_n dX7_work_116 rfl ?_
    refine wx_iload_n dX7_work_117 rfl ?_
    refine wx_icmp_ge (tgt := 125) dX7_work_118 (by decide) (fun c_118 => ?_) (fun c_118 => ?_)
    · replace h := it_t h c_118
      refine wx_iconst (v := 0) dX7_work_125 (by decide) ?_
      exact wx_sub (s_X7_work_126 hS hd hcu hsu h g) px_0
    · replace h := it_f h c_118
      refine wx_iconst (v := 1) dX7_work_121 (by decide) ?_
      refine wx_goto (tgt := 126) dX7_work_122 (by decide) ?_
      exact wx_sub (s_X7_work_126 hS hd hcu hsu h g) px_0
  replace h := it_f h c_1_60
  by_cases c_1_61 : p0 = 61
  · replace h := it_t h c_1_61
    refine wx_lsk (tgt := 138) (off := 137) dX7_work_1 (by decide) c_1_61 (by decide) (by decide) ?_
    refine wx_iload_n dX7_work_138 rfl ?_
    refine wx_iload_n dX7_work_139 rfl ?_
    refine wx_icmp_ne (tgt := 147) dX7_work_140 (by decide) (fun c_140 => ?_) (fun c_140 => ?_)
    · replace h := it_f h c_140
      refine wx_iconst (v := 0) dX7_work_147 (by decide) ?_
      exact wx_sub (s_X7_work_148 hS hd hcu hsu h g) px_0
    · replace h := it_t h c_140
      refine wx_iconst (v := 1) dX7_work_143 (by decide) ?_
      refine wx_goto (tgt := 148) dX7_work_144 (by decide) ?_
      exact wx_sub (s_X7_work_148 hS hd hcu hsu h g) px_0
  replace h := it_f h c_1_61
  by_cases c_1_62 : p0 = 62
  · replace h := it_t h c_1_62
    refine wx_lsk (tgt := 127) (off := 126) dX7_work_1 (by decide) c_1_62 (by decide) (by decide) ?_
    refine wx_iload_n dX7_work_127 rfl ?_
    refine wx_iload_n dX7_work_128 rfl ?_
    refine wx_icmp_le (tgt := 136) dX7_work_129 (by decide) (fun c_129 => ?_) (fun c_129 => ?_)
    · replace h := it_t h c_129
      refine wx_iconst (v := 0) dX7_work_136 (by decide) ?_
      exact wx_sub (s_X7_work_137 hS hd hcu hsu h g) px_0
    · replace h := it_f h c_129
      refine wx_iconst (v := 1) dX7_work_132 (by decide) ?_
      refine wx_goto (tgt := 137) dX7_work_133 (by decide) ?_
      exact wx_sub (s_X7_work_137 hS hd hcu hsu h g) px_0
  replace h := it_f h c_1_62
  by_cases c_1_304 : p0 = 304
  · replace h := it_t h c_1_304
    refine wx_lsk (tgt := 149) (off := 148) dX7_work_1 (by decide) c_1_304 (by decide) (by decide) ?_
    refine wx_iload_n dX7_work_149 rfl ?_
    refine wx_iload_n dX7_work_150 rfl ?_
    refine wx_ior dX7_work_151 ?_
    refine wx_iret dX7_work_152 hcu hsu ?_
    obtain rfl := Option.some.inj h
    exact g
  replace h := it_f h c_1_304
  by_cases c_1_305 : p0 = 305
  · replace h := it_t h c_1_305
    refine wx_lsk (tgt := 153) (off := 152) dX7_work_1 (by decide) c_1_305 (by decide) (by decide) ?_
    refine wx_iload_n dX7_work_153 rfl ?_
    refine wx_iload_n dX7_work_154 rfl ?_
    refine wx_iand dX7_work_155 ?_
    refine wx_iret dX7_work_156 hcu hsu ?_
    obtain rfl := Option.some.inj h
    exact g
  replace h := it_f h c_1_305
  by_cases c_1_314 : p0 = 314
  · replace h := it_t h c_1_314
    refine wx_lsk (tgt := 157) (off := 156) dX7_work_1 (by decide) c_1_314 (by decide) (by decide) ?_
    refine wx_iload_n dX7_work_157 rfl ?_
    refine wx_iload_n dX7_work_158 rfl ?_
    obtain ⟨e_159, k_159, h⟩ := bd1_some h
    refine wx_cSi dX7_work_159 ml_X7_45 my_J9_min_7cf53 sv_J9_min_7cf53 (s_J9_min_7cf53 (d := d - 1) hS (by omega) k_159) rfl (by omega) (by exact Nat.le_of_ble_eq_true rfl) hcu hsu ?_
    refine wx_iret dX7_work_162 hcu hsu ?_
    obtain rfl := Option.some.inj h
    exact g
  replace h := it_f h c_1_314
  have n_1_42 := ts_ne (j := 42) c_1_42 (by decide)
  have n_1_43 := ts_ne (j := 43) c_1_43 (by decide)
  have n_1_45 := ts_ne (j := 45) c_1_45 (by decide)
  have n_1_47 := ts_ne (j := 47) c_1_47 (by decide)
  have n_1_60 := ts_ne (j := 60) c_1_60 (by decide)
  have n_1_61 := ts_ne (j := 61) c_1_61 (by decide)
  have n_1_62 := ts_ne (j := 62) c_1_62 (by decide)
  have n_1_304 := ts_ne (j := 304) c_1_304 (by decide)
  have n_1_305 := ts_ne (j := 305) c_1_305 (by decide)
  have n_1_314 := ts_ne (j := 314) c_1_314 (by decide)
  refine wx_ls (tgt := 163) (off := 162) dX7_work_1 (by decide) (by simp [Op.lookupswitch.offset, Ne.symm n_1_42, Ne.symm n_1_43, Ne.symm n_1_45, Ne.symm n_1_47, Ne.symm n_1_60, Ne.symm n_1_61, Ne.symm n_1_62, Ne.symm n_1_304, Ne.symm n_1_305, Ne.symm n_1_314]) (by decide) ?_
  refine wx_iload_n dX7_work_163 rfl ?_
  refine wx_iload_n dX7_work_164 rfl ?_
  obtain ⟨e_165, k_165, h⟩ := bd1_some h
  refine wx_cSi dX7_work_165 ml_X7_51 my_J9_max_7cf53 sv_J9_max_7cf53 (s_J9_max_7cf53 (d := d - 1) hS (by omega) k_165) rfl (by omega) (by exact Nat.le_of_ble_eq_true rfl) hcu hsu ?_
  refine wx_iret dX7_work_168 hcu hsu ?_
  obtain rfl := Option.some.inj h
  exact g
noncomputable def f_X7_holds_181 (sh : px_Sh) (M : px_M) (R : px_R) (a0 : Nat) (x2 : Int32) (x4 : Int32) (x5 : Int32) : Option ((Int32 × Int32 × px_M) ⊕ (Int32 × px_M)) :=
  some (.inl (x4, (x5 + 1), M))
theorem s_X7_holds_181 {a0 : Nat} {x2 : Int32} {x4 : Int32} {x5 : Int32} {M : px_M} {L : px_L} {R : px_R} {e : ((Int32 × Int32 × px_M) ⊕ (Int32 × px_M))} (hS : SR sh R) (hd : 2 ≤ d) (hcu : cu ≤ mc) (hsu : su ≤ ms) (h : f_X7_holds_181 sh M R a0 x2 x4 x5 = some e) (g : (sE (fun a => WX RX7 cX7_holds 9 (some .boolean) ("holds", []) d mc ms X (px_QF Post mc ms) 6 [(0, .ref a0), (2, .int x2), (3, .ref 19), (4, .int a.1), (5, .int a.2.1)] [] sh (a.2.2) L R n cu su) (fun t => WX RX7 cX7_holds 9 (some .boolean) ("holds", []) d mc ms X (px_QF Post mc ms) 187 [(0, .ref a0), (4, .int t.1)] [] sh (t.2) L R n cu su)) e) : WX RX7 cX7_holds 9 (some .boolean) ("holds", []) d mc ms X (px_QF Post mc ms) 181 [(0, .ref a0), (2, .int x2), (3, .ref 19), (4, .int x4), (5, .int x5)] [] sh M L R n cu su := by
  unfold f_X7_holds_181 at h
  refine wx_iinc (lv' := [(5, _), (0, _), (2, _), (3, _), (4, _)]) dX7_holds_181 rfl (i_1 _) (by decide) rfl ?_
  refine wx_goto (tgt := 6) dX7_holds_184 (by decide) ?_
  obtain rfl := Option.some.inj h
  replace g := sE_l g
  exact wx_sub g (px_s rfl (px_s rfl (px_s rfl (px_s rfl (px_s rfl px_0)))))
noncomputable def f_X7_holds_140 (sh : px_Sh) (M : px_M) (R : px_R) (a0 : Nat) (x2 : Int32) (x4 : Int32) (x5 : Int32) (x6 : Int32) : Option ((Int32 × Int32 × px_M) ⊕ (Int32 × px_M)) :=
  if x4 < 2 then
    f_X7_holds_181 sh M R a0 x2 x4 x5
  else
    ok (hk sh a0 7) <|
    bd1 (R a0 3) fun b_147 =>
    ok (hk sh a0 7) <|
    bd1 (R a0 3) fun b_157 =>
    nm (x4 - 2) fun v_164 =>
    ok (xk sh b_157 13 v_164) <|
    ok (hk sh a0 7) <|
    bd1 (R a0 3) fun b_166 =>
    nm (x4 - 1) fun v_173 =>
    ok (xk sh b_166 13 v_173) <|
    bd1 (f_X7_work x6 (M b_157 v_164.toNatClampNeg) (M b_166 v_173.toNatClampNeg)) fun e_174 =>
    ok (xk sh b_147 13 (x4 - 2)) <|
    nm (px_u M b_147 (x4 - 2).toNatClampNeg e_174) fun M_177 =>
    f_X7_holds_181 sh M_177 R a0 x2 (x4 + -1) x5
theorem s_X7_holds_140 {a0 : Nat} {x2 : Int32} {x4 : Int32} {x5 : Int32} {x6 : Int32} {M : px_M} {L : px_L} {R : px_R} {e : ((Int32 × Int32 × px_M) ⊕ (Int32 × px_M))} (hS : SR sh R) (hd : 2 ≤ d) (hcu : cu ≤ mc) (hsu : su ≤ ms) (h : f_X7_holds_140 sh M R a0 x2 x4 x5 x6 = some e) (g : (sE (fun a => WX RX7 cX7_holds 9 (some .boolean) ("holds", []) d mc ms X (px_QF Post mc ms) 6 [(0, .ref a0), (2, .int x2), (3, .ref 19), (4, .int a.1), (5, .int a.2.1)] [] sh (a.2.2) L R n cu su) (fun t => WX RX7 cX7_holds 9 (some .boolean) ("holds", []) d mc ms X (px_QF Post mc ms) 187 [(0, .ref a0), (4, .int t.1)] [] sh (t.2) L R n cu su)) e) : WX RX7 cX7_holds 9 (some .boolean) ("holds", []) d mc ms X (px_QF Post mc ms) 140 [(0, .ref a0), (2, .int x2), (3, .ref 19), (4, .int x4), (5, .int x5), (6, .int x6)] [] sh M L R n cu su := by
  unfold f_X7_holds_140 at h
  refine wx_iload dX7_holds_140 rfl ?_
  refine wx_iconst (v := 2) dX7_holds_142 (by decide) ?_
  refine wx_icmp_lt (tgt := 181) dX7_holds_143 (by decide) (fun c_143 => ?_) (fun c_143 => ?_)
  · replace h := it_t h c_143
    exact wx_sub (s_X7_holds_181 hS hd hcu hsu h g) (px_s rfl (px_s rfl (px_s rfl (px_s rfl (px_s rfl px_0)))))
  · replace h := it_f h c_143
    refine wx_aload_n dX7_holds_146 rfl ?_
    obtain ⟨ws_147, h⟩ := ok_some h
    obtain ⟨ln_147, wt_147⟩ := hk_some ws_147
    obtain ⟨b_147, w_147, h⟩ := bd1_some h
    refine wx_getR dX7_holds_147 fl_X7_23 wt_147 rfl w_147 ?_
    refine wx_iload dX7_holds_150 rfl ?_
    refine wx_iconst (v := 2) dX7_holds_152 (by decide) ?_
    refine wx_isub dX7_holds_153 ?_
    refine wx_iload dX7_holds_154 rfl ?_
    refine wx_aload_n dX7_holds_156 rfl ?_
    obtain ⟨ws_157, h⟩ := ok_some h
    obtain ⟨ln_157, wt_157⟩ := hk_some ws_157
    obtain ⟨b_157, w_157, h⟩ := bd1_some h
    refine wx_getR dX7_holds_157 fl_X7_23 wt_157 rfl w_157 ?_
    refine wx_iload dX7_holds_160 rfl ?_
    refine wx_iconst (v := 2) dX7_holds_162 (by decide) ?_
    refine wx_isub dX7_holds_163 ?_
    refine wx_nami (fun v_164 q_164 => ?_)
    replace h := nm_at h q_164
    obtain ⟨w_164, h⟩ := ok_some h
    obtain ⟨ln_164, wt_164, wi_164⟩ := xk_some w_164
    refine wx_iald dX7_holds_164 wt_164 wi_164 ?_
    refine wx_aload_n dX7_holds_165 rfl ?_
    obtain ⟨ws_166, h⟩ := ok_some h
    obtain ⟨ln_166, wt_166⟩ := hk_some ws_166
    obtain ⟨b_166, w_166, h⟩ := bd1_some h
    refine wx_getR dX7_holds_166 fl_X7_23 wt_166 rfl w_166 ?_
    refine wx_iload dX7_holds_169 rfl ?_
    refine wx_iconst (v := 1) dX7_holds_171 (by decide) ?_
    refine wx_isub dX7_holds_172 ?_
    refine wx_nami (fun v_173 q_173 => ?_)
    replace h := nm_at h q_173
    obtain ⟨w_173, h⟩ := ok_some h
    obtain ⟨ln_173, wt_173, wi_173⟩ := xk_some w_173
    refine wx_iald dX7_holds_173 wt_173 wi_173 ?_
    obtain ⟨e_174, k_174, h⟩ := bd1_some h
    refine wx_cSi dX7_holds_174 ml_X7_41 my_X7_work sv_X7_work (s_X7_work (d := d - 1) hS (by omega) k_174) rfl (by omega) (by exact Nat.le_of_ble_eq_true rfl) hcu hsu ?_
    obtain ⟨w_177, h⟩ := ok_some h
    obtain ⟨ln_177, wt_177, wi_177⟩ := xk_some w_177
    refine wx_iast dX7_holds_177 wt_177 wi_177 ?_
    refine wx_namM (fun M_177 q_177 => ?_)
    replace h := nm_at h q_177
    refine wx_iinc (lv' := [(4, _), (0, _), (2, _), (3, _), (5, _), (6, _)]) dX7_holds_178 rfl (i_m1 _) (by decide) rfl ?_
    exact wx_sub (s_X7_holds_181 hS hd hcu hsu h g) (px_s rfl (px_s rfl (px_s rfl (px_s rfl (px_s rfl px_0)))))
noncomputable def f_X7_holds_96 (sh : px_Sh) (M : px_M) (R : px_R) (a0 : Nat) (x2 : Int32) (x4 : Int32) (x5 : Int32) (z0 : Int32) (z1 : Int32) (z2 : Nat) : Option ((Int32 × Int32 × px_M) ⊕ (Int32 × px_M)) :=
  ok (xk sh z2 13 z1) <|
  nm (px_u M z2 z1.toNatClampNeg z0) fun M_96 =>
  f_X7_holds_181 sh M_96 R a0 x2 (x4 + 1) x5
theorem s_X7_holds_96 {a0 : Nat} {x2 : Int32} {x4 : Int32} {x5 : Int32} {z0 : Int32} {z1 : Int32} {z2 : Nat} {M : px_M} {L : px_L} {R : px_R} {e : ((Int32 × Int32 × px_M) ⊕ (Int32 × px_M))} (hS : SR sh R) (hd : 2 ≤ d) (hcu : cu ≤ mc) (hsu : su ≤ ms) (h : f_X7_holds_96 sh M R a0 x2 x4 x5 z0 z1 z2 = some e) (g : (sE (fun a => WX RX7 cX7_holds 9 (some .boolean) ("holds", []) d mc ms X (px_QF Post mc ms) 6 [(0, .ref a0), (2, .int x2), (3, .ref 19), (4, .int a.1), (5, .int a.2.1)] [] sh (a.2.2) L R n cu su) (fun t => WX RX7 cX7_holds 9 (some .boolean) ("holds", []) d mc ms X (px_QF Post mc ms) 187 [(0, .ref a0), (4, .int t.1)] [] sh (t.2) L R n cu su)) e) : WX RX7 cX7_holds 9 (some .boolean) ("holds", []) d mc ms X (px_QF Post mc ms) 96 [(0, .ref a0), (2, .int x2), (3, .ref 19), (4, .int x4), (5, .int x5)] [.int z0, .int z1, .ref z2] sh M L R n cu su := by
  unfold f_X7_holds_96 at h
  obtain ⟨w_96, h⟩ := ok_some h
  obtain ⟨ln_96, wt_96, wi_96⟩ := xk_some w_96
  refine wx_iast dX7_holds_96 wt_96 wi_96 ?_
  refine wx_namM (fun M_96 q_96 => ?_)
  replace h := nm_at h q_96
  refine wx_iinc (lv' := [(4, _), (0, _), (2, _), (3, _), (5, _)]) dX7_holds_97 rfl (i_1 _) (by decide) rfl ?_
  refine wx_goto (tgt := 181) dX7_holds_100 (by decide) ?_
  exact wx_sub (s_X7_holds_181 hS hd hcu hsu h g) (px_s rfl (px_s rfl (px_s rfl (px_s rfl (px_s rfl px_0)))))
noncomputable def f_X7_holds_60 (sh : px_Sh) (M : px_M) (R : px_R) (a0 : Nat) (x2 : Int32) (x4 : Int32) (x5 : Int32) (x6 : Int32) (x7 : Int32) : Option ((Int32 × Int32 × px_M) ⊕ (Int32 × px_M)) :=
  if 32 ≤ x4 then
    f_X7_holds_181 sh M R a0 x2 x4 x5
  else
    ok (hk sh a0 7) <|
    bd1 (R a0 3) fun b_68 =>
    if x7 = 0 then
      nm (x6 - 307) fun v_95 =>
      ok (ix v_95 7) <|
      f_X7_holds_96 sh M R a0 x2 x4 x5 (M 19 v_95.toNatClampNeg) x4 b_68
    else
      ok (hk sh a0 7) <|
      bd1 (R a0 0) fun b_79 =>
      ok (xk sh b_79 13 x5) <|
      f_X7_holds_96 sh M R a0 x2 x4 x5 (M b_79 x5.toNatClampNeg) x4 b_68
theorem s_X7_holds_60 {a0 : Nat} {x2 : Int32} {x4 : Int32} {x5 : Int32} {x6 : Int32} {x7 : Int32} {M : px_M} {L : px_L} {R : px_R} {e : ((Int32 × Int32 × px_M) ⊕ (Int32 × px_M))} (hS : SR sh R) (hd : 2 ≤ d) (hcu : cu ≤ mc) (hsu : su ≤ ms) (h : f_X7_holds_60 sh M R a0 x2 x4 x5 x6 x7 = some e) (g : (sE (fun a => WX RX7 cX7_holds 9 (some .boolean) ("holds", []) d mc ms X (px_QF Post mc ms) 6 [(0, .ref a0), (2, .int x2), (3, .ref 19), (4, .int a.1), (5, .int a.2.1)] [] sh (a.2.2) L R n cu su) (fun t => WX RX7 cX7_holds 9 (some .boolean) ("holds", []) d mc ms X (px_QF Post mc ms) 187 [(0, .ref a0), (4, .int t.1)] [] sh (t.2) L R n cu su)) e) : WX RX7 cX7_holds 9 (some .boolean) ("holds", []) d mc ms X (px_QF Post mc ms) 60 [(0, .ref a0), (2, .int x2), (3, .ref 19), (4, .int x4), (5, .int x5), (6, .int x6), (7, .int x7)] [] sh M L R n cu su := by
  unfold f_X7_holds_60 at h
  refine wx_iload dX7_holds_60 rfl ?_
  refine wx_bipush (v := 32) dX7_holds_62 (by decide) ?_
  refine wx_icmp_ge (tgt := 181) dX7_holds_64 (by decide) (fun c_64 => ?_) (fun c_64 => ?_)
  · replace h := it_t h c_64
    exact wx_sub (s_X7_holds_181 hS hd hcu hsu h g) (px_s rfl (px_s rfl (px_s rfl (px_s rfl (px_s rfl px_0)))))
  · replace h := it_f h c_64
    refine wx_aload_n dX7_holds_67 rfl ?_
    obtain ⟨ws_68, h⟩ := ok_some h
    obtain ⟨ln_68, wt_68⟩ := hk_some ws_68
    obtain ⟨b_68, w_68, h⟩ := bd1_some h
    refine wx_getR dX7_holds_68 fl_X7_23 wt_68 rfl w_68 ?_
    refine wx_iload dX7_holds_71 rfl ?_
    refine wx_iload dX7_holds_73 rfl ?_
    refine wx_if_eq (tgt := 88) dX7_holds_75 (by decide) (fun c_75 => ?_) (fun c_75 => ?_)
    · replace h := it_t h c_75
      refine wx_aload_n dX7_holds_88 rfl ?_
      refine wx_iload dX7_holds_89 rfl ?_
      refine wx_sipush (v := 307) dX7_holds_91 (by decide) ?_
      refine wx_isub dX7_holds_94 ?_
      refine wx_nami (fun v_95 q_95 => ?_)
      replace h := nm_at h q_95
      obtain ⟨w_95, h⟩ := ok_some h
      refine wx_iald dX7_holds_95 (sc_19 hS) (ix_in w_95) ?_
      exact wx_sub (s_X7_holds_96 hS hd hcu hsu h g) (px_s rfl (px_s rfl (px_s rfl (px_s rfl (px_s rfl px_0)))))
    · replace h := it_f h c_75
      refine wx_aload_n dX7_holds_78 rfl ?_
      obtain ⟨ws_79, h⟩ := ok_some h
      obtain ⟨ln_79, wt_79⟩ := hk_some ws_79
      obtain ⟨b_79, w_79, h⟩ := bd1_some h
      refine wx_getR dX7_holds_79 fl_X7_11 wt_79 rfl w_79 ?_
      refine wx_iload dX7_holds_82 rfl ?_
      obtain ⟨w_84, h⟩ := ok_some h
      obtain ⟨ln_84, wt_84, wi_84⟩ := xk_some w_84
      refine wx_iald dX7_holds_84 wt_84 wi_84 ?_
      refine wx_goto (tgt := 96) dX7_holds_85 (by decide) ?_
      exact wx_sub (s_X7_holds_96 hS hd hcu hsu h g) (px_s rfl (px_s rfl (px_s rfl (px_s rfl (px_s rfl px_0)))))
noncomputable def f_X7_holds_32 (sh : px_Sh) (M : px_M) (R : px_R) (a0 : Nat) (x2 : Int32) (x4 : Int32) (x5 : Int32) (x6 : Int32) (z0 : Int32) : Option ((Int32 × Int32 × px_M) ⊕ (Int32 × px_M)) :=
  bd1 (f_X11_within (x6 - 307) 0 ((nI 7) - 1)) fun e_45 =>
  if z0 = 0 then
    if e_45 = 0 then
      if x6 = 306 then
        if x4 < 1 then
          f_X7_holds_140 sh M R a0 x2 x4 x5 x6
        else
          ok (hk sh a0 7) <|
          bd1 (R a0 3) fun b_118 =>
          ok (hk sh a0 7) <|
          bd1 (R a0 3) fun b_127 =>
          nm (x4 - 1) fun v_134 =>
          ok (xk sh b_127 13 v_134) <|
          nm (1 - (M b_127 v_134.toNatClampNeg)) fun v_136 =>
          ok (xk sh b_118 13 (x4 - 1)) <|
          nm (px_u M b_118 (x4 - 1).toNatClampNeg v_136) fun M_136 =>
          f_X7_holds_181 sh M_136 R a0 x2 x4 x5
      else
        f_X7_holds_140 sh M R a0 x2 x4 x5 x6
    else
      f_X7_holds_60 sh M R a0 x2 x4 x5 x6 z0
  else
    f_X7_holds_60 sh M R a0 x2 x4 x5 x6 z0
theorem s_X7_holds_32 {a0 : Nat} {x2 : Int32} {x4 : Int32} {x5 : Int32} {x6 : Int32} {z0 : Int32} {M : px_M} {L : px_L} {R : px_R} {e : ((Int32 × Int32 × px_M) ⊕ (Int32 × px_M))} (hS : SR sh R) (hd : 2 ≤ d) (hcu : cu ≤ mc) (hsu : su ≤ ms) (h : f_X7_holds_32 sh M R a0 x2 x4 x5 x6 z0 = some e) (g : (sE (fun a => WX RX7 cX7_holds 9 (some .boolean) ("holds", []) d mc ms X (px_QF Post mc ms) 6 [(0, .ref a0), (2, .int x2), (3, .ref 19), (4, .int a.1), (5, .int a.2.1)] [] sh (a.2.2) L R n cu su) (fun t => WX RX7 cX7_holds 9 (some .boolean) ("holds", []) d mc ms X (px_QF Post mc ms) 187 [(0, .ref a0), (4, .int t.1)] [] sh (t.2) L R n cu su)) e) : WX RX7 cX7_holds 9 (some .boolean) ("holds", []) d mc ms X (px_QF Post mc ms) 32 [(0, .ref a0), (2, .int x2), (3, .ref 19), (4, .int x4), (5, .int x5), (6, .int x6)] [.int z0] sh M L R n cu su := by
  unfold f_X7_holds_32 at h
  refine wx_istore (lv' := [(7, _), (0, _), (2, _), (3, _), (4, _), (5, _), (6, _)]) dX7_holds_32 (by decide) rfl ?_
  refine wx_iload dX7_holds_34 rfl ?_
  refine wx_sipush (v := 307) dX7_holds_36 (by decide) ?_
  refine wx_isub dX7_holds_39 ?_
  refine wx_iconst (v := 0) dX7_holds_40 (by decide) ?_
  refine wx_aload_n dX7_holds_41 rfl ?_
  refine wx_alen dX7_holds_42 (sc_19 hS) (by decide) (by decide) ?_
  refine wx_iconst (v := 1) dX7_holds_43 (by decide) ?_
  refine wx_isub dX7_holds_44 ?_
  obtain ⟨e_45, k_45, h⟩ := bd1_some h
  refine wx_cSi dX7_holds_45 ml_X7_33 my_X11_within sv_X11_within (s_X11_within (d := d - 1) hS (by omega) k_45) rfl (by omega) (by exact Nat.le_of_ble_eq_true rfl) hcu hsu ?_
  refine wx_istore (lv' := [(8, _), (7, _), (0, _), (2, _), (3, _), (4, _), (5, _), (6, _)]) dX7_holds_48 (by decide) rfl ?_
  refine wx_iload dX7_holds_50 rfl ?_
  refine wx_if_ne (tgt := 60) dX7_holds_52 (by decide) (fun c_52 => ?_) (fun c_52 => ?_)
  · replace h := it_f h c_52
    exact wx_sub (s_X7_holds_60 hS hd hcu hsu h g) (px_s rfl (px_s rfl (px_s rfl (px_s rfl (px_s rfl (px_s rfl (px_s rfl px_0)))))))
  · replace h := it_t h c_52
    refine wx_iload dX7_holds_55 rfl ?_
    refine wx_if_eq (tgt := 103) dX7_holds_57 (by decide) (fun c_57 => ?_) (fun c_57 => ?_)
    · replace h := it_t h c_57
      refine wx_iload dX7_holds_103 rfl ?_
      refine wx_sipush (v := 306) dX7_holds_105 (by decide) ?_
      refine wx_icmp_ne (tgt := 140) dX7_holds_108 (by decide) (fun c_108 => ?_) (fun c_108 => ?_)
      · replace h := it_f h c_108
        exact wx_sub (s_X7_holds_140 hS hd hcu hsu h g) (px_s rfl (px_s rfl (px_s rfl (px_s rfl (px_s rfl (px_s rfl px_0))))))
      · replace h := it_t h c_108
        refine wx_iload dX7_holds_111 rfl ?_
        refine wx_iconst (v := 1) dX7_holds_113 (by decide) ?_
        refine wx_icmp_lt (tgt := 140) dX7_holds_114 (by decide) (fun c_114 => ?_) (fun c_114 => ?_)
        · replace h := it_t h c_114
          exact wx_sub (s_X7_holds_140 hS hd hcu hsu h g) (px_s rfl (px_s rfl (px_s rfl (px_s rfl (px_s rfl (px_s rfl px_0))))))
        · replace h := it_f h c_114
          refine wx_aload_n dX7_holds_117 rfl ?_
          obtain ⟨ws_118, h⟩ := ok_some h
          obtain ⟨ln_118, wt_118⟩ := hk_some ws_118
          obtain ⟨b_118, w_118, h⟩ := bd1_some h
          refine wx_getR dX7_holds_118 fl_X7_23 wt_118 rfl w_118 ?_
          refine wx_iload dX7_holds_121 rfl ?_
          refine wx_iconst (v := 1) dX7_holds_123 (by decide) ?_
          refine wx_isub dX7_holds_124 ?_
          refine wx_iconst (v := 1) dX7_holds_125 (by decide) ?_
          refine wx_aload_n dX7_holds_126 rfl ?_
          obtain ⟨ws_127, h⟩ := ok_some h
          obtain ⟨ln_127, wt_127⟩ := hk_some ws_127
          obtain ⟨b_127, w_127, h⟩ := bd1_some h
          refine wx_getR dX7_holds_127 fl_X7_23 wt_127 rfl w_127 ?_
          refine wx_iload dX7_holds_130 rfl ?_
          refine wx_iconst (v := 1) dX7_holds_132 (by decide) ?_
          refine wx_isub dX7_holds_133 ?_
          refine wx_nami (fun v_134 q_134 => ?_)
          replace h := nm_at h q_134
          obtain ⟨w_134, h⟩ := ok_some h
          obtain ⟨ln_134, wt_134, wi_134⟩ := xk_some w_134
          refine wx_iald dX7_holds_134 wt_134 wi_134 ?_
          refine wx_isub dX7_holds_135 ?_
          refine wx_nami (fun v_136 q_136 => ?_)
          replace h := nm_at h q_136
          obtain ⟨w_136, h⟩ := ok_some h
          obtain ⟨ln_136, wt_136, wi_136⟩ := xk_some w_136
          refine wx_iast dX7_holds_136 wt_136 wi_136 ?_
          refine wx_namM (fun M_136 q_136 => ?_)
          replace h := nm_at h q_136
          refine wx_goto (tgt := 181) dX7_holds_137 (by decide) ?_
          exact wx_sub (s_X7_holds_181 hS hd hcu hsu h g) (px_s rfl (px_s rfl (px_s rfl (px_s rfl (px_s rfl px_0)))))
    · replace h := it_f h c_57
      exact wx_sub (s_X7_holds_60 hS hd hcu hsu h g) (px_s rfl (px_s rfl (px_s rfl (px_s rfl (px_s rfl (px_s rfl (px_s rfl px_0)))))))
noncomputable def f_X7_holds_6 (sh : px_Sh) (M : px_M) (R : px_R) (a0 : Nat) (x2 : Int32) (x4 : Int32) (x5 : Int32) : Option ((Int32 × Int32 × px_M) ⊕ (Int32 × px_M)) :=
  if x2 ≤ x5 then
    some (.inr (x4, M))
  else
    ok (hk sh a0 7) <|
    bd1 (R a0 0) fun b_13 =>
    ok (xk sh b_13 13 x5) <|
    nm (-(M b_13 x5.toNatClampNeg)) fun v_20 =>
    if 0 < v_20 then
      f_X7_holds_32 sh M R a0 x2 x4 x5 v_20 0
    else
      f_X7_holds_32 sh M R a0 x2 x4 x5 v_20 1
theorem s_X7_holds_6b {a0 : Nat} {x2 : Int32} {x4 : Int32} {x5 : Int32} {M : px_M} {L : px_L} {R : px_R} {e : ((Int32 × Int32 × px_M) ⊕ (Int32 × px_M))} (hS : SR sh R) (hd : 2 ≤ d) (hcu : cu ≤ mc) (hsu : su ≤ ms) (h : f_X7_holds_6 sh M R a0 x2 x4 x5 = some e) (g : (sE (fun a => WX RX7 cX7_holds 9 (some .boolean) ("holds", []) d mc ms X (px_QF Post mc ms) 6 [(0, .ref a0), (2, .int x2), (3, .ref 19), (4, .int a.1), (5, .int a.2.1)] [] sh (a.2.2) L R n cu su) (fun t => WX RX7 cX7_holds 9 (some .boolean) ("holds", []) d mc ms X (px_QF Post mc ms) 187 [(0, .ref a0), (4, .int t.1)] [] sh (t.2) L R n cu su)) e) : WX RX7 cX7_holds 9 (some .boolean) ("holds", []) d mc ms X (px_QF Post mc ms) 6 [(0, .ref a0), (2, .int x2), (3, .ref 19), (4, .int x4), (5, .int x5)] [] sh M L R n cu su := by
  unfold f_X7_holds_6 at h
  refine wx_iload dX7_holds_6 rfl ?_
  refine wx_iload_n dX7_holds_8 rfl ?_
  refine wx_icmp_ge (tgt := 187) dX7_holds_9 (by decide) (fun c_9 => ?_) (fun c_9 => ?_)
  · replace h := it_t h c_9
    obtain rfl := Option.some.inj h
    replace g := sE_r g
    exact wx_sub g (px_s rfl (px_s rfl px_0))
  · replace h := it_f h c_9
    refine wx_aload_n dX7_holds_12 rfl ?_
    obtain ⟨ws_13, h⟩ := ok_some h
    obtain ⟨ln_13, wt_13⟩ := hk_some ws_13
    obtain ⟨b_13, w_13, h⟩ := bd1_some h
    refine wx_getR dX7_holds_13 fl_X7_11 wt_13 rfl w_13 ?_
    refine wx_iload dX7_holds_16 rfl ?_
    obtain ⟨w_18, h⟩ := ok_some h
    obtain ⟨ln_18, wt_18, wi_18⟩ := xk_some w_18
    refine wx_iald dX7_holds_18 wt_18 wi_18 ?_
    refine wx_ineg dX7_holds_19 ?_
    refine wx_nami (fun v_20 q_20 => ?_)
    replace h := nm_at h q_20
    refine wx_istore (lv' := [(6, _), (0, _), (2, _), (3, _), (4, _), (5, _)]) dX7_holds_20 (by decide) rfl ?_
    refine wx_iload dX7_holds_22 rfl ?_
    refine wx_if_gt (tgt := 31) dX7_holds_24 (by decide) (fun c_24 => ?_) (fun c_24 => ?_)
    · replace h := it_t h c_24
      refine wx_iconst (v := 0) dX7_holds_31 (by decide) ?_
      exact wx_sub (s_X7_holds_32 hS hd hcu hsu h g) (px_s rfl (px_s rfl (px_s rfl (px_s rfl (px_s rfl (px_s rfl px_0))))))
    · replace h := it_f h c_24
      refine wx_iconst (v := 1) dX7_holds_27 (by decide) ?_
      refine wx_goto (tgt := 32) dX7_holds_28 (by decide) ?_
      exact wx_sub (s_X7_holds_32 hS hd hcu hsu h g) (px_s rfl (px_s rfl (px_s rfl (px_s rfl (px_s rfl (px_s rfl px_0))))))
theorem s_X7_holds_6 {a0 : Nat} {x2 : Int32} {x4 : Int32} {x5 : Int32} {M : px_M} {L : px_L} {R : px_R} {e : (Int32 × px_M)} (hS : SR sh R) (hd : 2 ≤ d) (hcu : cu ≤ mc) (hsu : su ≤ ms) (h : lpf (fun a : Int32 × Int32 × px_M => f_X7_holds_6 sh a.2.2 R a0 x2 a.1 a.2.1) (x4, x5, M) = some e) (g : WX RX7 cX7_holds 9 (some .boolean) ("holds", []) d mc ms X (px_QF Post mc ms) 187 [(0, .ref a0), (4, .int e.1)] [] sh (e.2) L R n cu su) : WX RX7 cX7_holds 9 (some .boolean) ("holds", []) d mc ms X (px_QF Post mc ms) 6 [(0, .ref a0), (2, .int x2), (3, .ref 19), (4, .int x4), (5, .int x5)] [] sh M L R n cu su := by
  have key := lpf_wp (P := (fun a => WX RX7 cX7_holds 9 (some .boolean) ("holds", []) d mc ms X (px_QF Post mc ms) 6 [(0, .ref a0), (2, .int x2), (3, .ref 19), (4, .int a.1), (5, .int a.2.1)] [] sh (a.2.2) L R n cu su)) (G := (fun t => WX RX7 cX7_holds 9 (some .boolean) ("holds", []) d mc ms X (px_QF Post mc ms) 187 [(0, .ref a0), (4, .int t.1)] [] sh (t.2) L R n cu su)) (fun a r h g => s_X7_holds_6b (a0 := a0) (x2 := x2) (x4 := a.1) (x5 := a.2.1) (M := a.2.2) (L := L) (R := R) hS hd hcu hsu h g) (a := (x4, x5, M)) h g
  exact key
noncomputable def f_X7_holds_208 (sh : px_Sh) (M : px_M) (R : px_R) (z0 : Int32) : Option (Int32 × px_M) :=
  ok (zb z0) <|
  some (z0, M)
theorem s_X7_holds_208 {z0 : Int32} {M : px_M} {L : px_L} {R : px_R} {e : (Int32 × px_M)} (hS : SR sh R) (hd : 2 ≤ d) (hcu : cu ≤ mc) (hsu : su ≤ ms) (h : f_X7_holds_208 sh M R z0 = some e) (g : Post (some (.int (e.1))) sh (e.2) L R n) : WX RX7 cX7_holds 9 (some .boolean) ("holds", []) d mc ms X (px_QF Post mc ms) 208 [] [.int z0] sh M L R n cu su := by
  unfold f_X7_holds_208 at h
  obtain ⟨w_208, h⟩ := ok_some h
  refine wx_zret dX7_holds_208 (zb_n w_208) hcu hsu ?_
  obtain rfl := Option.some.inj h
  exact g
noncomputable def f_X7_holds_207 (sh : px_Sh) (M : px_M) (R : px_R) : Option (Int32 × px_M) :=
  f_X7_holds_208 sh M R 0
theorem s_X7_holds_207 {M : px_M} {L : px_L} {R : px_R} {e : (Int32 × px_M)} (hS : SR sh R) (hd : 2 ≤ d) (hcu : cu ≤ mc) (hsu : su ≤ ms) (h : f_X7_holds_207 sh M R = some e) (g : Post (some (.int (e.1))) sh (e.2) L R n) : WX RX7 cX7_holds 9 (some .boolean) ("holds", []) d mc ms X (px_QF Post mc ms) 207 [] [] sh M L R n cu su := by
  unfold f_X7_holds_207 at h
  refine wx_iconst (v := 0) dX7_holds_207 (by decide) ?_
  exact wx_sub (s_X7_holds_208 hS hd hcu hsu h g) px_0
noncomputable def f_X7_holds (sh : px_Sh) (M : px_M) (R : px_R) (a0 : Nat) (p1 : Int32) (p2 : Int32) : Option (Int32 × px_M) :=
  bd1 (lpf (fun a : Int32 × Int32 × px_M => f_X7_holds_6 sh a.2.2 R a0 p2 a.1 a.2.1) (0, p1, M)) fun e_6 =>
  if e_6.1 = 1 then
    ok (hk sh a0 7) <|
    bd1 (R a0 3) fun b_194 =>
    ok (xk sh b_194 13 0) <|
    if (e_6.2 b_194 (0 : Int32).toNatClampNeg) = 1 then
      f_X7_holds_208 sh e_6.2 R 1
    else
      f_X7_holds_207 sh e_6.2 R
  else
    f_X7_holds_207 sh e_6.2 R
theorem s_X7_holds {d : Nat} {X : Nat × (Nat → Int32)} {sh : px_Sh} {M : px_M} {L : px_L} {R : px_R} {n : Nat} {a0 : Nat} {p1 : Int32} {p2 : Int32} {e : Int32 × px_M} (hS : SR sh R) (hd : 2 ≤ d) (h : f_X7_holds sh M R a0 p1 p2 = some e) : MX yX7_holds cX7_holds 9 (some .boolean) d 0 0 X [.ref a0, .int p1, .int p2, .ref 19] sh M L R n (px_pu (some (.int e.1)) sh e.2 L R n) := by
  refine MX.of (by decide +kernel) (by exact Nat.le_of_ble_eq_true rfl) ?_
  have hcu : 0 ≤ 0 := Nat.zero_le _
  have hsu : 0 ≤ 0 := Nat.zero_le _
  have g : px_pu (some (.int e.1)) sh e.2 L R n (some (.int e.1)) sh e.2 L R n := ⟨rfl, rfl, rfl, rfl, rfl, rfl⟩
  unfold f_X7_holds at h
  refine wx_iconst (v := 0) dX7_holds_0 (by decide) ?_
  refine wx_istore (lv' := [(4, _), (0, _), (1, _), (2, _), (3, _)]) dX7_holds_1 (by decide) rfl ?_
  refine wx_iload_n dX7_holds_3 rfl ?_
  refine wx_istore (lv' := [(5, _), (4, _), (0, _), (1, _), (2, _), (3, _)]) dX7_holds_4 (by decide) rfl ?_
  obtain ⟨e_6, k_6, h⟩ := bd1_some h
  refine wx_sub (s_X7_holds_6 hS hd hcu hsu k_6 ?_) (px_s rfl (px_s rfl (px_s rfl (px_s rfl (px_s rfl px_0)))))
  refine wx_iload dX7_holds_187 rfl ?_
  refine wx_iconst (v := 1) dX7_holds_189 (by decide) ?_
  refine wx_icmp_ne (tgt := 207) dX7_holds_190 (by decide) (fun c_190 => ?_) (fun c_190 => ?_)
  · replace h := it_f h c_190
    exact wx_sub (s_X7_holds_207 hS hd hcu hsu h g) px_0
  · replace h := it_t h c_190
    refine wx_aload_n dX7_holds_193 rfl ?_
    obtain ⟨ws_194, h⟩ := ok_some h
    obtain ⟨ln_194, wt_194⟩ := hk_some ws_194
    obtain ⟨b_194, w_194, h⟩ := bd1_some h
    refine wx_getR dX7_holds_194 fl_X7_23 wt_194 rfl w_194 ?_
    refine wx_iconst (v := 0) dX7_holds_197 (by decide) ?_
    obtain ⟨w_198, h⟩ := ok_some h
    obtain ⟨ln_198, wt_198, wi_198⟩ := xk_some w_198
    refine wx_iald dX7_holds_198 wt_198 wi_198 ?_
    refine wx_iconst (v := 1) dX7_holds_199 (by decide) ?_
    refine wx_icmp_ne (tgt := 207) dX7_holds_200 (by decide) (fun c_200 => ?_) (fun c_200 => ?_)
    · replace h := it_f h c_200
      exact wx_sub (s_X7_holds_207 hS hd hcu hsu h g) px_0
    · replace h := it_t h c_200
      refine wx_iconst (v := 1) dX7_holds_203 (by decide) ?_
      refine wx_goto (tgt := 208) dX7_holds_204 (by decide) ?_
      exact wx_sub (s_X7_holds_208 hS hd hcu hsu h g) px_0
noncomputable def f_X7_firstHolding_27 (sh : px_Sh) (M : px_M) (R : px_R) (a0 : Nat) (x2 : Int32) (z0 : Int32) (z1 : Nat) : Option ((Int32 × px_M) ⊕ ((Int32 × px_M) ⊕ (px_M))) :=
  ok (hk sh a0 7) <|
  bd1 (R a0 1) fun b_28 =>
  ok (xk sh b_28 13 x2) <|
  ok (hk sh z1 7) <|
  bd1 (f_X7_holds sh M R z1 z0 (M b_28 x2.toNatClampNeg)) fun e_34 =>
  if e_34.1 = 0 then
    some (.inl ((x2 + 1), e_34.2))
  else
    some (.inr (.inl (x2, e_34.2)))
theorem s_X7_firstHolding_27 {a0 : Nat} {x2 : Int32} {z0 : Int32} {z1 : Nat} {M : px_M} {L : px_L} {R : px_R} {e : ((Int32 × px_M) ⊕ ((Int32 × px_M) ⊕ (px_M)))} (hS : SR sh R) (hd : 3 ≤ d) (hcu : cu ≤ mc) (hsu : su ≤ ms) (h : f_X7_firstHolding_27 sh M R a0 x2 z0 z1 = some e) (g : (sE (fun a => WX RX7 cX7_firstHolding 3 (some .int) ("firstHolding", []) d mc ms X (px_QF Post mc ms) 2 [(0, .ref a0), (1, .ref 19), (2, .int a.1)] [] sh (a.2) L R n cu su) (sE (fun t => WX RX7 cX7_firstHolding 3 (some .int) ("firstHolding", []) d mc ms X (px_QF Post mc ms) 40 [(2, .int t.1)] [] sh (t.2) L R n cu su) (fun t => WX RX7 cX7_firstHolding 3 (some .int) ("firstHolding", []) d mc ms X (px_QF Post mc ms) 48 [] [] sh t L R n cu su))) e) : WX RX7 cX7_firstHolding 3 (some .int) ("firstHolding", []) d mc ms X (px_QF Post mc ms) 27 [(0, .ref a0), (1, .ref 19), (2, .int x2)] [.int z0, .ref z1] sh M L R n cu su := by
  unfold f_X7_firstHolding_27 at h
  refine wx_aload_n dX7_firstHolding_27 rfl ?_
  obtain ⟨ws_28, h⟩ := ok_some h
  obtain ⟨ln_28, wt_28⟩ := hk_some ws_28
  obtain ⟨b_28, w_28, h⟩ := bd1_some h
  refine wx_getR dX7_firstHolding_28 fl_X7_17 wt_28 rfl w_28 ?_
  refine wx_iload_n dX7_firstHolding_31 rfl ?_
  obtain ⟨w_32, h⟩ := ok_some h
  obtain ⟨ln_32, wt_32, wi_32⟩ := xk_some w_32
  refine wx_iald dX7_firstHolding_32 wt_32 wi_32 ?_
  refine wx_aload_n dX7_firstHolding_33 rfl ?_
  obtain ⟨ws_34, h⟩ := ok_some h
  obtain ⟨ln_34, wt_34⟩ := hk_some ws_34
  obtain ⟨e_34, k_34, h⟩ := bd1_some h
  refine wx_cVi dX7_firstHolding_34 ml_X7_37 my_X7_holds iv_X7_holds wt_34 (by decide) (s_X7_holds (d := d - 1) hS (by omega) k_34) rfl (by omega) (by exact Nat.le_of_ble_eq_true rfl) hcu hsu ?_
  refine wx_if_eq (tgt := 42) dX7_firstHolding_37 (by decide) (fun c_37 => ?_) (fun c_37 => ?_)
  · replace h := it_t h c_37
    refine wx_iinc (lv' := [(2, _), (0, _), (1, _)]) dX7_firstHolding_42 rfl (i_1 _) (by decide) rfl ?_
    refine wx_goto (tgt := 2) dX7_firstHolding_45 (by decide) ?_
    obtain rfl := Option.some.inj h
    replace g := sE_l g
    exact wx_sub g (px_s rfl (px_s rfl (px_s rfl px_0)))
  · replace h := it_f h c_37
    obtain rfl := Option.some.inj h
    replace g := sE_l (sE_r g)
    exact wx_sub g (px_s rfl px_0)
noncomputable def f_X7_firstHolding_2 (sh : px_Sh) (M : px_M) (R : px_R) (a0 : Nat) (x2 : Int32) : Option ((Int32 × px_M) ⊕ ((Int32 × px_M) ⊕ (px_M))) :=
  ok (hk sh a0 7) <|
  if (M a0 5) ≤ x2 then
    some (.inr (.inr M))
  else
    if x2 = 0 then
      f_X7_firstHolding_27 sh M R a0 x2 0 a0
    else
      ok (hk sh a0 7) <|
      bd1 (R a0 1) fun b_20 =>
      nm (x2 - 1) fun v_26 =>
      ok (xk sh b_20 13 v_26) <|
      f_X7_firstHolding_27 sh M R a0 x2 (M b_20 v_26.toNatClampNeg) a0
theorem s_X7_firstHolding_2b {a0 : Nat} {x2 : Int32} {M : px_M} {L : px_L} {R : px_R} {e : ((Int32 × px_M) ⊕ ((Int32 × px_M) ⊕ (px_M)))} (hS : SR sh R) (hd : 3 ≤ d) (hcu : cu ≤ mc) (hsu : su ≤ ms) (h : f_X7_firstHolding_2 sh M R a0 x2 = some e) (g : (sE (fun a => WX RX7 cX7_firstHolding 3 (some .int) ("firstHolding", []) d mc ms X (px_QF Post mc ms) 2 [(0, .ref a0), (1, .ref 19), (2, .int a.1)] [] sh (a.2) L R n cu su) (sE (fun t => WX RX7 cX7_firstHolding 3 (some .int) ("firstHolding", []) d mc ms X (px_QF Post mc ms) 40 [(2, .int t.1)] [] sh (t.2) L R n cu su) (fun t => WX RX7 cX7_firstHolding 3 (some .int) ("firstHolding", []) d mc ms X (px_QF Post mc ms) 48 [] [] sh t L R n cu su))) e) : WX RX7 cX7_firstHolding 3 (some .int) ("firstHolding", []) d mc ms X (px_QF Post mc ms) 2 [(0, .ref a0), (1, .ref 19), (2, .int x2)] [] sh M L R n cu su := by
  unfold f_X7_firstHolding_2 at h
  refine wx_iload_n dX7_firstHolding_2 rfl ?_
  refine wx_aload_n dX7_firstHolding_3 rfl ?_
  obtain ⟨ws_4, h⟩ := ok_some h
  obtain ⟨ln_4, wt_4⟩ := hk_some ws_4
  refine wx_getI dX7_firstHolding_4 fl_X7_30 wt_4 rfl ?_
  refine wx_icmp_ge (tgt := 48) dX7_firstHolding_7 (by decide) (fun c_7 => ?_) (fun c_7 => ?_)
  · replace h := it_t h c_7
    obtain rfl := Option.some.inj h
    replace g := sE_r (sE_r g)
    exact wx_sub g px_0
  · replace h := it_f h c_7
    refine wx_aload_n dX7_firstHolding_10 rfl ?_
    refine wx_iload_n dX7_firstHolding_11 rfl ?_
    refine wx_if_ne (tgt := 19) dX7_firstHolding_12 (by decide) (fun c_12 => ?_) (fun c_12 => ?_)
    · replace h := it_f h c_12
      refine wx_aload_n dX7_firstHolding_19 rfl ?_
      obtain ⟨ws_20, h⟩ := ok_some h
      obtain ⟨ln_20, wt_20⟩ := hk_some ws_20
      obtain ⟨b_20, w_20, h⟩ := bd1_some h
      refine wx_getR dX7_firstHolding_20 fl_X7_17 wt_20 rfl w_20 ?_
      refine wx_iload_n dX7_firstHolding_23 rfl ?_
      refine wx_iconst (v := 1) dX7_firstHolding_24 (by decide) ?_
      refine wx_isub dX7_firstHolding_25 ?_
      refine wx_nami (fun v_26 q_26 => ?_)
      replace h := nm_at h q_26
      obtain ⟨w_26, h⟩ := ok_some h
      obtain ⟨ln_26, wt_26, wi_26⟩ := xk_some w_26
      refine wx_iald dX7_firstHolding_26 wt_26 wi_26 ?_
      exact wx_sub (s_X7_firstHolding_27 hS hd hcu hsu h g) (px_s rfl (px_s rfl (px_s rfl px_0)))
    · replace h := it_t h c_12
      refine wx_iconst (v := 0) dX7_firstHolding_15 (by decide) ?_
      refine wx_goto (tgt := 27) dX7_firstHolding_16 (by decide) ?_
      exact wx_sub (s_X7_firstHolding_27 hS hd hcu hsu h g) (px_s rfl (px_s rfl (px_s rfl px_0)))
theorem s_X7_firstHolding_2 {a0 : Nat} {x2 : Int32} {M : px_M} {L : px_L} {R : px_R} {e : ((Int32 × px_M) ⊕ (px_M))} (hS : SR sh R) (hd : 3 ≤ d) (hcu : cu ≤ mc) (hsu : su ≤ ms) (h : lpf (fun a : Int32 × px_M => f_X7_firstHolding_2 sh a.2 R a0 a.1) (x2, M) = some e) (g : (sE (fun t => WX RX7 cX7_firstHolding 3 (some .int) ("firstHolding", []) d mc ms X (px_QF Post mc ms) 40 [(2, .int t.1)] [] sh (t.2) L R n cu su) (fun t => WX RX7 cX7_firstHolding 3 (some .int) ("firstHolding", []) d mc ms X (px_QF Post mc ms) 48 [] [] sh t L R n cu su)) e) : WX RX7 cX7_firstHolding 3 (some .int) ("firstHolding", []) d mc ms X (px_QF Post mc ms) 2 [(0, .ref a0), (1, .ref 19), (2, .int x2)] [] sh M L R n cu su := by
  have key := lpf_wp (P := (fun a => WX RX7 cX7_firstHolding 3 (some .int) ("firstHolding", []) d mc ms X (px_QF Post mc ms) 2 [(0, .ref a0), (1, .ref 19), (2, .int a.1)] [] sh (a.2) L R n cu su)) (G := (sE (fun t => WX RX7 cX7_firstHolding 3 (some .int) ("firstHolding", []) d mc ms X (px_QF Post mc ms) 40 [(2, .int t.1)] [] sh (t.2) L R n cu su) (fun t => WX RX7 cX7_firstHolding 3 (some .int) ("firstHolding", []) d mc ms X (px_QF Post mc ms) 48 [] [] sh t L R n cu su))) (fun a r h g => s_X7_firstHolding_2b (a0 := a0) (x2 := a.1) (M := a.2) (L := L) (R := R) hS hd hcu hsu h g) (a := (x2, M)) h g
  exact key
noncomputable def f_X7_firstHolding (sh : px_Sh) (M : px_M) (R : px_R) (a0 : Nat) : Option (Int32 × px_M) :=
  bdS (lpf (fun a : Int32 × px_M => f_X7_firstHolding_2 sh a.2 R a0 a.1) (0, M)) (fun t_2_0 =>
  some (t_2_0.1, t_2_0.2)) (fun u_2_0 =>
  some ((-1), u_2_0))
theorem s_X7_firstHolding {d : Nat} {X : Nat × (Nat → Int32)} {sh : px_Sh} {M : px_M} {L : px_L} {R : px_R} {n : Nat} {a0 : Nat} {e : Int32 × px_M} (hS : SR sh R) (hd : 3 ≤ d) (h : f_X7_firstHolding sh M R a0 = some e) : MX yX7_firstHolding cX7_firstHolding 3 (some .int) d 0 0 X [.ref a0, .ref 19] sh M L R n (px_pu (some (.int e.1)) sh e.2 L R n) := by
  refine MX.of (by decide +kernel) (by exact Nat.le_of_ble_eq_true rfl) ?_
  have hcu : 0 ≤ 0 := Nat.zero_le _
  have hsu : 0 ≤ 0 := Nat.zero_le _
  have g : px_pu (some (.int e.1)) sh e.2 L R n (some (.int e.1)) sh e.2 L R n := ⟨rfl, rfl, rfl, rfl, rfl, rfl⟩
  unfold f_X7_firstHolding at h
  refine wx_iconst (v := 0) dX7_firstHolding_0 (by decide) ?_
  refine wx_istore_n (lv' := [(2, _), (0, _), (1, _)]) dX7_firstHolding_1 (by decide) rfl ?_
  rcases bdS_some h with ⟨t_2_0, k_2_0, h⟩ | ⟨u_2_0, k_2_0, h⟩
  · refine wx_sub (s_X7_firstHolding_2 hS hd hcu hsu k_2_0 (sE_li ?_)) (px_s rfl (px_s rfl (px_s rfl px_0)))
    refine wx_iload_n dX7_firstHolding_40 rfl ?_
    refine wx_iret dX7_firstHolding_41 hcu hsu ?_
    obtain rfl := Option.some.inj h
    exact g
  · refine wx_sub (s_X7_firstHolding_2 hS hd hcu hsu k_2_0 (sE_ri ?_)) (px_s rfl (px_s rfl (px_s rfl px_0)))
    refine wx_iconst (v := (-1)) dX7_firstHolding_48 (by decide) ?_
    refine wx_iret dX7_firstHolding_49 hcu hsu ?_
    obtain rfl := Option.some.inj h
    exact g
noncomputable def f_X7_steerOf_24 (sh : px_Sh) (M : px_M) (R : px_R) (z0 : Int32) : Option (Int32) :=
  some z0
theorem s_X7_steerOf_24 {z0 : Int32} {M : px_M} {L : px_L} {R : px_R} {e : (Int32)} (hS : SR sh R) (hd : 1 ≤ d) (hcu : cu ≤ mc) (hsu : su ≤ ms) (h : f_X7_steerOf_24 sh M R z0 = some e) (g : Post (some (.int e)) sh M L R n) : WX RX7 cX7_steerOf 2 (some .int) ("steerOf", []) d mc ms X (px_QF Post mc ms) 24 [] [.int z0] sh M L R n cu su := by
  unfold f_X7_steerOf_24 at h
  refine wx_iret dX7_steerOf_24 hcu hsu ?_
  obtain rfl := Option.some.inj h
  exact g
noncomputable def f_X7_steerOf (sh : px_Sh) (M : px_M) (R : px_R) (a0 : Nat) (p1 : Int32) : Option (Int32) :=
  ok (hk sh a0 7) <|
  bd1 (f_X11_within p1 0 ((M a0 5) - 1)) fun e_8 =>
  if e_8 = 0 then
    f_X7_steerOf_24 sh M R 1
  else
    ok (hk sh a0 7) <|
    bd1 (R a0 2) fun b_15 =>
    ok (xk sh b_15 13 p1) <|
    f_X7_steerOf_24 sh M R (M b_15 p1.toNatClampNeg)
theorem s_X7_steerOf {d : Nat} {X : Nat × (Nat → Int32)} {sh : px_Sh} {M : px_M} {L : px_L} {R : px_R} {n : Nat} {a0 : Nat} {p1 : Int32} {e : Int32} (hS : SR sh R) (hd : 1 ≤ d) (h : f_X7_steerOf sh M R a0 p1 = some e) : MX yX7_steerOf cX7_steerOf 2 (some .int) d 0 0 X [.ref a0, .int p1] sh M L R n (px_pu (some (.int e)) sh M L R n) := by
  refine MX.of (by decide +kernel) (by exact Nat.le_of_ble_eq_true rfl) ?_
  have hcu : 0 ≤ 0 := Nat.zero_le _
  have hsu : 0 ≤ 0 := Nat.zero_le _
  have g : px_pu (some (.int e)) sh M L R n (some (.int e)) sh M L R n := ⟨rfl, rfl, rfl, rfl, rfl, rfl⟩
  unfold f_X7_steerOf at h
  refine wx_iload_n dX7_steerOf_0 rfl ?_
  refine wx_iconst (v := 0) dX7_steerOf_1 (by decide) ?_
  refine wx_aload_n dX7_steerOf_2 rfl ?_
  obtain ⟨ws_3, h⟩ := ok_some h
  obtain ⟨ln_3, wt_3⟩ := hk_some ws_3
  refine wx_getI dX7_steerOf_3 fl_X7_30 wt_3 rfl ?_
  refine wx_iconst (v := 1) dX7_steerOf_6 (by decide) ?_
  refine wx_isub dX7_steerOf_7 ?_
  obtain ⟨e_8, k_8, h⟩ := bd1_some h
  refine wx_cSi dX7_steerOf_8 ml_X7_33 my_X11_within sv_X11_within (s_X11_within (d := d - 1) hS (by omega) k_8) rfl (by omega) (by exact Nat.le_of_ble_eq_true rfl) hcu hsu ?_
  refine wx_if_eq (tgt := 23) dX7_steerOf_11 (by decide) (fun c_11 => ?_) (fun c_11 => ?_)
  · replace h := it_t h c_11
    refine wx_iconst (v := 1) dX7_steerOf_23 (by decide) ?_
    exact wx_sub (s_X7_steerOf_24 hS hd hcu hsu h g) px_0
  · replace h := it_f h c_11
    refine wx_aload_n dX7_steerOf_14 rfl ?_
    obtain ⟨ws_15, h⟩ := ok_some h
    obtain ⟨ln_15, wt_15⟩ := hk_some ws_15
    obtain ⟨b_15, w_15, h⟩ := bd1_some h
    refine wx_getR dX7_steerOf_15 fl_X7_20 wt_15 rfl w_15 ?_
    refine wx_iload_n dX7_steerOf_18 rfl ?_
    obtain ⟨w_19, h⟩ := ok_some h
    obtain ⟨ln_19, wt_19, wi_19⟩ := xk_some w_19
    refine wx_iald dX7_steerOf_19 wt_19 wi_19 ?_
    refine wx_goto (tgt := 24) dX7_steerOf_20 (by decide) ?_
    exact wx_sub (s_X7_steerOf_24 hS hd hcu hsu h g) px_0
noncomputable def f_X7_forget (sh : px_Sh) (M : px_M) (a0 : Nat) : Option (px_M) :=
  ok (hk sh a0 7) <|
  nm (px_u M a0 4 0) fun M_2 =>
  ok (hk sh a0 7) <|
  nm (px_u M_2 a0 5 0) fun M_7 =>
  some M_7
theorem s_X7_forget {d : Nat} {X : Nat × (Nat → Int32)} {sh : px_Sh} {M : px_M} {L : px_L} {R : px_R} {n : Nat} {a0 : Nat} {e : px_M} (hS : SR sh R) (hd : 0 ≤ d) (h : f_X7_forget sh M a0 = some e) : MX yX7_forget cX7_forget 1 none d 0 0 X [.ref a0] sh M L R n (px_pu none sh e L R n) := by
  refine MX.of (by decide +kernel) (by exact Nat.le_of_ble_eq_true rfl) ?_
  have hcu : 0 ≤ 0 := Nat.zero_le _
  have hsu : 0 ≤ 0 := Nat.zero_le _
  have g : px_pu none sh e L R n none sh e L R n := ⟨rfl, rfl, rfl, rfl, rfl, rfl⟩
  unfold f_X7_forget at h
  refine wx_aload_n dX7_forget_0 rfl ?_
  refine wx_iconst (v := 0) dX7_forget_1 (by decide) ?_
  obtain ⟨ws_2, h⟩ := ok_some h
  obtain ⟨ln_2, wt_2⟩ := hk_some ws_2
  refine wx_putI dX7_forget_2 fl_X7_26 wt_2 (Or.inl rfl) rfl ⟨rfl, rfl⟩ ?_
  refine wx_namM (fun M_2 q_2 => ?_)
  replace h := nm_at h q_2
  refine wx_aload_n dX7_forget_5 rfl ?_
  refine wx_iconst (v := 0) dX7_forget_6 (by decide) ?_
  obtain ⟨ws_7, h⟩ := ok_some h
  obtain ⟨ln_7, wt_7⟩ := hk_some ws_7
  refine wx_putI dX7_forget_7 fl_X7_30 wt_7 (Or.inl rfl) rfl ⟨rfl, rfl⟩ ?_
  refine wx_namM (fun M_7 q_7 => ?_)
  replace h := nm_at h q_7
  refine wx_vret dX7_forget_10 hcu hsu ?_
  obtain rfl := Option.some.inj h
  exact g
noncomputable def f_X7_add_32 (sh : px_Sh) (M : px_M) (R : px_R) : Option (px_M) :=
  some M
theorem s_X7_add_32 {M : px_M} {L : px_L} {R : px_R} {e : (px_M)} (hS : SR sh R) (hd : 0 ≤ d) (hcu : cu ≤ mc) (hsu : su ≤ ms) (h : f_X7_add_32 sh M R = some e) (g : Post none sh e L R n) : WX RX7 cX7_add 2 none ("add", []) d mc ms X (px_QF Post mc ms) 32 [] [] sh M L R n cu su := by
  unfold f_X7_add_32 at h
  refine wx_vret dX7_add_32 hcu hsu ?_
  obtain rfl := Option.some.inj h
  exact g
noncomputable def f_X7_add (sh : px_Sh) (M : px_M) (R : px_R) (a0 : Nat) (p1 : Int32) : Option (px_M) :=
  ok (hk sh a0 7) <|
  ok (hk sh a0 7) <|
  bd1 (R a0 0) fun b_5 =>
  bd1 (al sh b_5 13) fun n_8 =>
  if (nI n_8) ≤ (M a0 4) then
    f_X7_add_32 sh M R
  else
    ok (hk sh a0 7) <|
    bd1 (R a0 0) fun b_13 =>
    ok (hk sh a0 7) <|
    ok (xk sh b_13 13 (M a0 4)) <|
    nm (px_u M b_13 (M a0 4).toNatClampNeg p1) fun M_21 =>
    ok (hk sh a0 7) <|
    nm ((M_21 a0 4) + 1) fun v_29 =>
    ok (hk sh a0 7) <|
    nm (px_u M_21 a0 4 v_29) fun M_29 =>
    f_X7_add_32 sh M_29 R
theorem s_X7_add {d : Nat} {X : Nat × (Nat → Int32)} {sh : px_Sh} {M : px_M} {L : px_L} {R : px_R} {n : Nat} {a0 : Nat} {p1 : Int32} {e : px_M} (hS : SR sh R) (hd : 0 ≤ d) (h : f_X7_add sh M R a0 p1 = some e) : MX yX7_add cX7_add 2 none d 0 0 X [.ref a0, .int p1] sh M L R n (px_pu none sh e L R n) := by
  refine MX.of (by decide +kernel) (by exact Nat.le_of_ble_eq_true rfl) ?_
  have hcu : 0 ≤ 0 := Nat.zero_le _
  have hsu : 0 ≤ 0 := Nat.zero_le _
  have g : px_pu none sh e L R n none sh e L R n := ⟨rfl, rfl, rfl, rfl, rfl, rfl⟩
  unfold f_X7_add at h
  refine wx_aload_n dX7_add_0 rfl ?_
  obtain ⟨ws_1, h⟩ := ok_some h
  obtain ⟨ln_1, wt_1⟩ := hk_some ws_1
  refine wx_getI dX7_add_1 fl_X7_26 wt_1 rfl ?_
  refine wx_aload_n dX7_add_4 rfl ?_
  obtain ⟨ws_5, h⟩ := ok_some h
  obtain ⟨ln_5, wt_5⟩ := hk_some ws_5
  obtain ⟨b_5, w_5, h⟩ := bd1_some h
  refine wx_getR dX7_add_5 fl_X7_11 wt_5 rfl w_5 ?_
  obtain ⟨n_8, w_8, h⟩ := bd1_some h
  refine wx_alen dX7_add_8 (al_some w_8) (by decide) (by decide) ?_
  refine wx_icmp_ge (tgt := 32) dX7_add_9 (by decide) (fun c_9 => ?_) (fun c_9 => ?_)
  · replace h := it_t h c_9
    exact wx_sub (s_X7_add_32 hS hd hcu hsu h g) px_0
  · replace h := it_f h c_9
    refine wx_aload_n dX7_add_12 rfl ?_
    obtain ⟨ws_13, h⟩ := ok_some h
    obtain ⟨ln_13, wt_13⟩ := hk_some ws_13
    obtain ⟨b_13, w_13, h⟩ := bd1_some h
    refine wx_getR dX7_add_13 fl_X7_11 wt_13 rfl w_13 ?_
    refine wx_aload_n dX7_add_16 rfl ?_
    obtain ⟨ws_17, h⟩ := ok_some h
    obtain ⟨ln_17, wt_17⟩ := hk_some ws_17
    refine wx_getI dX7_add_17 fl_X7_26 wt_17 rfl ?_
    refine wx_iload_n dX7_add_20 rfl ?_
    obtain ⟨w_21, h⟩ := ok_some h
    obtain ⟨ln_21, wt_21, wi_21⟩ := xk_some w_21
    refine wx_iast dX7_add_21 wt_21 wi_21 ?_
    refine wx_namM (fun M_21 q_21 => ?_)
    replace h := nm_at h q_21
    refine wx_aload_n dX7_add_22 rfl ?_
    refine wx_dup dX7_add_23 rfl ?_
    obtain ⟨ws_24, h⟩ := ok_some h
    obtain ⟨ln_24, wt_24⟩ := hk_some ws_24
    refine wx_getI dX7_add_24 fl_X7_26 wt_24 rfl ?_
    refine wx_iconst (v := 1) dX7_add_27 (by decide) ?_
    refine wx_iadd dX7_add_28 ?_
    refine wx_nami (fun v_29 q_29 => ?_)
    replace h := nm_at h q_29
    obtain ⟨ws_29, h⟩ := ok_some h
    obtain ⟨ln_29, wt_29⟩ := hk_some ws_29
    refine wx_putI dX7_add_29 fl_X7_26 wt_29 (Or.inl rfl) rfl ⟨rfl, rfl⟩ ?_
    refine wx_namM (fun M_29 q_29 => ?_)
    replace h := nm_at h q_29
    exact wx_sub (s_X7_add_32 hS hd hcu hsu h g) px_0
noncomputable def f_X7_endRule_42 (sh : px_Sh) (M : px_M) (R : px_R) : Option (px_M) :=
  some M
theorem s_X7_endRule_42 {M : px_M} {L : px_L} {R : px_R} {e : (px_M)} (hS : SR sh R) (hd : 0 ≤ d) (hcu : cu ≤ mc) (hsu : su ≤ ms) (h : f_X7_endRule_42 sh M R = some e) (g : Post none sh e L R n) : WX RX7 cX7_endRule 2 none ("endRule", []) d mc ms X (px_QF Post mc ms) 42 [] [] sh M L R n cu su := by
  unfold f_X7_endRule_42 at h
  refine wx_vret dX7_endRule_42 hcu hsu ?_
  obtain rfl := Option.some.inj h
  exact g
noncomputable def f_X7_endRule (sh : px_Sh) (M : px_M) (R : px_R) (a0 : Nat) (p1 : Int32) : Option (px_M) :=
  ok (hk sh a0 7) <|
  if 16 ≤ (M a0 5) then
    f_X7_endRule_42 sh M R
  else
    ok (hk sh a0 7) <|
    bd1 (R a0 1) fun b_10 =>
    ok (hk sh a0 7) <|
    ok (hk sh a0 7) <|
    nm (M a0 4) fun v_21 =>
    ok (xk sh b_10 13 (M a0 5)) <|
    nm (px_u M b_10 (M a0 5).toNatClampNeg v_21) fun M_21 =>
    ok (hk sh a0 7) <|
    bd1 (R a0 2) fun b_23 =>
    ok (hk sh a0 7) <|
    ok (xk sh b_23 13 (M_21 a0 5)) <|
    nm (px_u M_21 b_23 (M_21 a0 5).toNatClampNeg p1) fun M_31 =>
    ok (hk sh a0 7) <|
    nm ((M_31 a0 5) + 1) fun v_39 =>
    ok (hk sh a0 7) <|
    nm (px_u M_31 a0 5 v_39) fun M_39 =>
    f_X7_endRule_42 sh M_39 R
theorem s_X7_endRule {d : Nat} {X : Nat × (Nat → Int32)} {sh : px_Sh} {M : px_M} {L : px_L} {R : px_R} {n : Nat} {a0 : Nat} {p1 : Int32} {e : px_M} (hS : SR sh R) (hd : 0 ≤ d) (h : f_X7_endRule sh M R a0 p1 = some e) : MX yX7_endRule cX7_endRule 2 none d 0 0 X [.ref a0, .int p1] sh M L R n (px_pu none sh e L R n) := by
  refine MX.of (by decide +kernel) (by exact Nat.le_of_ble_eq_true rfl) ?_
  have hcu : 0 ≤ 0 := Nat.zero_le _
  have hsu : 0 ≤ 0 := Nat.zero_le _
  have g : px_pu none sh e L R n none sh e L R n := ⟨rfl, rfl, rfl, rfl, rfl, rfl⟩
  unfold f_X7_endRule at h
  refine wx_aload_n dX7_endRule_0 rfl ?_
  obtain ⟨ws_1, h⟩ := ok_some h
  obtain ⟨ln_1, wt_1⟩ := hk_some ws_1
  refine wx_getI dX7_endRule_1 fl_X7_30 wt_1 rfl ?_
  refine wx_bipush (v := 16) dX7_endRule_4 (by decide) ?_
  refine wx_icmp_ge (tgt := 42) dX7_endRule_6 (by decide) (fun c_6 => ?_) (fun c_6 => ?_)
  · replace h := it_t h c_6
    exact wx_sub (s_X7_endRule_42 hS hd hcu hsu h g) px_0
  · replace h := it_f h c_6
    refine wx_aload_n dX7_endRule_9 rfl ?_
    obtain ⟨ws_10, h⟩ := ok_some h
    obtain ⟨ln_10, wt_10⟩ := hk_some ws_10
    obtain ⟨b_10, w_10, h⟩ := bd1_some h
    refine wx_getR dX7_endRule_10 fl_X7_17 wt_10 rfl w_10 ?_
    refine wx_aload_n dX7_endRule_13 rfl ?_
    obtain ⟨ws_14, h⟩ := ok_some h
    obtain ⟨ln_14, wt_14⟩ := hk_some ws_14
    refine wx_getI dX7_endRule_14 fl_X7_30 wt_14 rfl ?_
    refine wx_aload_n dX7_endRule_17 rfl ?_
    obtain ⟨ws_18, h⟩ := ok_some h
    obtain ⟨ln_18, wt_18⟩ := hk_some ws_18
    refine wx_getI dX7_endRule_18 fl_X7_26 wt_18 rfl ?_
    refine wx_nami (fun v_21 q_21 => ?_)
    replace h := nm_at h q_21
    obtain ⟨w_21, h⟩ := ok_some h
    obtain ⟨ln_21, wt_21, wi_21⟩ := xk_some w_21
    refine wx_iast dX7_endRule_21 wt_21 wi_21 ?_
    refine wx_namM (fun M_21 q_21 => ?_)
    replace h := nm_at h q_21
    refine wx_aload_n dX7_endRule_22 rfl ?_
    obtain ⟨ws_23, h⟩ := ok_some h
    obtain ⟨ln_23, wt_23⟩ := hk_some ws_23
    obtain ⟨b_23, w_23, h⟩ := bd1_some h
    refine wx_getR dX7_endRule_23 fl_X7_20 wt_23 rfl w_23 ?_
    refine wx_aload_n dX7_endRule_26 rfl ?_
    obtain ⟨ws_27, h⟩ := ok_some h
    obtain ⟨ln_27, wt_27⟩ := hk_some ws_27
    refine wx_getI dX7_endRule_27 fl_X7_30 wt_27 rfl ?_
    refine wx_iload_n dX7_endRule_30 rfl ?_
    obtain ⟨w_31, h⟩ := ok_some h
    obtain ⟨ln_31, wt_31, wi_31⟩ := xk_some w_31
    refine wx_iast dX7_endRule_31 wt_31 wi_31 ?_
    refine wx_namM (fun M_31 q_31 => ?_)
    replace h := nm_at h q_31
    refine wx_aload_n dX7_endRule_32 rfl ?_
    refine wx_dup dX7_endRule_33 rfl ?_
    obtain ⟨ws_34, h⟩ := ok_some h
    obtain ⟨ln_34, wt_34⟩ := hk_some ws_34
    refine wx_getI dX7_endRule_34 fl_X7_30 wt_34 rfl ?_
    refine wx_iconst (v := 1) dX7_endRule_37 (by decide) ?_
    refine wx_iadd dX7_endRule_38 ?_
    refine wx_nami (fun v_39 q_39 => ?_)
    replace h := nm_at h q_39
    obtain ⟨ws_39, h⟩ := ok_some h
    obtain ⟨ln_39, wt_39⟩ := hk_some ws_39
    refine wx_putI dX7_endRule_39 fl_X7_30 wt_39 (Or.inl rfl) rfl ⟨rfl, rfl⟩ ?_
    refine wx_namM (fun M_39 q_39 => ?_)
    replace h := nm_at h q_39
    exact wx_sub (s_X7_endRule_42 hS hd hcu hsu h g) px_0
noncomputable def f_X6_hasRoom_18 (M : px_M) (z0 : Int32) : Option (Int32) :=
  ok (zb z0) <|
  some z0
theorem s_X6_hasRoom_18 {z0 : Int32} {M : px_M} {L : px_L} {R : px_R} {e : (Int32)} (hS : SR sh R) (hd : 0 ≤ d) (hcu : cu ≤ mc) (hsu : su ≤ ms) (h : f_X6_hasRoom_18 M z0 = some e) (g : Post (some (.int e)) sh M L R n) : WX RX6 cX6_hasRoom 1 (some .boolean) ("hasRoom", []) d mc ms X (px_QF Post mc ms) 18 [] [.int z0] sh M L R n cu su := by
  unfold f_X6_hasRoom_18 at h
  obtain ⟨w_18, h⟩ := ok_some h
  refine wx_zret dX6_hasRoom_18 (zb_n w_18) hcu hsu ?_
  obtain rfl := Option.some.inj h
  exact g
noncomputable def f_X6_hasRoom (M : px_M) : Option (Int32) :=
  if 300 < ((M 20 1) + 20) then
    f_X6_hasRoom_18 M 0
  else
    f_X6_hasRoom_18 M 1
theorem s_X6_hasRoom {d : Nat} {X : Nat × (Nat → Int32)} {sh : px_Sh} {M : px_M} {L : px_L} {R : px_R} {n : Nat} {e : Int32} (hS : SR sh R) (hd : 0 ≤ d) (h : f_X6_hasRoom M = some e) : MX yX6_hasRoom cX6_hasRoom 1 (some .boolean) d 0 0 X [.ref 20] sh M L R n (px_pu (some (.int e)) sh M L R n) := by
  refine MX.of (by decide +kernel) (by exact Nat.le_of_ble_eq_true rfl) ?_
  have hcu : 0 ≤ 0 := Nat.zero_le _
  have hsu : 0 ≤ 0 := Nat.zero_le _
  have g : px_pu (some (.int e)) sh M L R n (some (.int e)) sh M L R n := ⟨rfl, rfl, rfl, rfl, rfl, rfl⟩
  unfold f_X6_hasRoom at h
  refine wx_aload_n dX6_hasRoom_0 rfl ?_
  refine wx_getI dX6_hasRoom_1 fl_X6_26 (sc_20 hS) rfl ?_
  refine wx_bipush (v := 20) dX6_hasRoom_4 (by decide) ?_
  refine wx_iadd dX6_hasRoom_6 ?_
  refine wx_sipush (v := 300) dX6_hasRoom_7 (by decide) ?_
  refine wx_icmp_gt (tgt := 17) dX6_hasRoom_10 (by decide) (fun c_10 => ?_) (fun c_10 => ?_)
  · replace h := it_t h c_10
    refine wx_iconst (v := 0) dX6_hasRoom_17 (by decide) ?_
    exact wx_sub (s_X6_hasRoom_18 hS hd hcu hsu h g) px_0
  · replace h := it_f h c_10
    refine wx_iconst (v := 1) dX6_hasRoom_13 (by decide) ?_
    refine wx_goto (tgt := 18) dX6_hasRoom_14 (by decide) ?_
    exact wx_sub (s_X6_hasRoom_18 hS hd hcu hsu h g) px_0
noncomputable def f_X6_addNumber_3 (M : px_M) (x1 : Int32) (x2 : Int32) : Option ((Int32 × px_M) ⊕ (px_M)) :=
  if x2 < 0 then
    some (.inr M)
  else
    if 300 ≤ (M 20 1) then
      some (.inr M)
    else
      nm ((x1 >>> (x2 &&& 31)) &&& 255) fun v_32 =>
      ok (ix (M 20 1) 300) <|
      nm (px_u M 21 (M 20 1).toNatClampNeg v_32) fun M_32 =>
      nm ((M_32 20 1) + 1) fun v_40 =>
      nm (px_u M_32 20 1 v_40) fun M_40 =>
      some (.inl ((x2 + -8), M_40))
theorem s_X6_addNumber_3b {x1 : Int32} {x2 : Int32} {M : px_M} {L : px_L} {R : px_R} {e : ((Int32 × px_M) ⊕ (px_M))} (hS : SR sh R) (hd : 0 ≤ d) (hcu : cu ≤ mc) (hsu : su ≤ ms) (h : f_X6_addNumber_3 M x1 x2 = some e) (g : (sE (fun a => WX RX6 cX6_addNumber 3 none ("addNumber", []) d mc ms X (px_QF Post mc ms) 3 [(0, .ref 20), (1, .int x1), (2, .int a.1)] [] sh (a.2) L R n cu su) (fun t => WX RX6 cX6_addNumber 3 none ("addNumber", []) d mc ms X (px_QF Post mc ms) 49 [] [] sh t L R n cu su)) e) : WX RX6 cX6_addNumber 3 none ("addNumber", []) d mc ms X (px_QF Post mc ms) 3 [(0, .ref 20), (1, .int x1), (2, .int x2)] [] sh M L R n cu su := by
  unfold f_X6_addNumber_3 at h
  refine wx_iload_n dX6_addNumber_3 rfl ?_
  refine wx_if_lt (tgt := 49) dX6_addNumber_4 (by decide) (fun c_4 => ?_) (fun c_4 => ?_)
  · replace h := it_t h c_4
    obtain rfl := Option.some.inj h
    replace g := sE_r g
    exact wx_sub g px_0
  · replace h := it_f h c_4
    refine wx_aload_n dX6_addNumber_7 rfl ?_
    refine wx_getI dX6_addNumber_8 fl_X6_26 (sc_20 hS) rfl ?_
    refine wx_sipush (v := 300) dX6_addNumber_11 (by decide) ?_
    refine wx_icmp_ge (tgt := 49) dX6_addNumber_14 (by decide) (fun c_14 => ?_) (fun c_14 => ?_)
    · replace h := it_t h c_14
      obtain rfl := Option.some.inj h
      replace g := sE_r g
      exact wx_sub g px_0
    · replace h := it_f h c_14
      refine wx_aload_n dX6_addNumber_17 rfl ?_
      refine wx_getR dX6_addNumber_18 fl_X6_11 (sc_20 hS) rfl (rr_20_0 hS) ?_
      refine wx_aload_n dX6_addNumber_21 rfl ?_
      refine wx_getI dX6_addNumber_22 fl_X6_26 (sc_20 hS) rfl ?_
      refine wx_iload_n dX6_addNumber_25 rfl ?_
      refine wx_iload_n dX6_addNumber_26 rfl ?_
      refine wx_ishr dX6_addNumber_27 ?_
      refine wx_sipush (v := 255) dX6_addNumber_28 (by decide) ?_
      refine wx_iand dX6_addNumber_31 ?_
      refine wx_nami (fun v_32 q_32 => ?_)
      replace h := nm_at h q_32
      obtain ⟨w_32, h⟩ := ok_some h
      refine wx_iast dX6_addNumber_32 (sc_21 hS) (ix_in w_32) ?_
      refine wx_namM (fun M_32 q_32 => ?_)
      replace h := nm_at h q_32
      refine wx_aload_n dX6_addNumber_33 rfl ?_
      refine wx_dup dX6_addNumber_34 rfl ?_
      refine wx_getI dX6_addNumber_35 fl_X6_26 (sc_20 hS) rfl ?_
      refine wx_iconst (v := 1) dX6_addNumber_38 (by decide) ?_
      refine wx_iadd dX6_addNumber_39 ?_
      refine wx_nami (fun v_40 q_40 => ?_)
      replace h := nm_at h q_40
      refine wx_putI dX6_addNumber_40 fl_X6_26 (sc_20 hS) (Or.inl rfl) rfl ⟨rfl, rfl⟩ ?_
      refine wx_namM (fun M_40 q_40 => ?_)
      replace h := nm_at h q_40
      refine wx_iinc (lv' := [(2, _), (0, _), (1, _)]) dX6_addNumber_43 rfl (i_m8 _) (by decide) rfl ?_
      refine wx_goto (tgt := 3) dX6_addNumber_46 (by decide) ?_
      obtain rfl := Option.some.inj h
      replace g := sE_l g
      exact wx_sub g (px_s rfl (px_s rfl (px_s rfl px_0)))
theorem s_X6_addNumber_3 {x1 : Int32} {x2 : Int32} {M : px_M} {L : px_L} {R : px_R} {e : (px_M)} (hS : SR sh R) (hd : 0 ≤ d) (hcu : cu ≤ mc) (hsu : su ≤ ms) (h : lpf (fun a : Int32 × px_M => f_X6_addNumber_3 a.2 x1 a.1) (x2, M) = some e) (g : WX RX6 cX6_addNumber 3 none ("addNumber", []) d mc ms X (px_QF Post mc ms) 49 [] [] sh e L R n cu su) : WX RX6 cX6_addNumber 3 none ("addNumber", []) d mc ms X (px_QF Post mc ms) 3 [(0, .ref 20), (1, .int x1), (2, .int x2)] [] sh M L R n cu su := by
  have key := lpf_wp (P := (fun a => WX RX6 cX6_addNumber 3 none ("addNumber", []) d mc ms X (px_QF Post mc ms) 3 [(0, .ref 20), (1, .int x1), (2, .int a.1)] [] sh (a.2) L R n cu su)) (G := (fun t => WX RX6 cX6_addNumber 3 none ("addNumber", []) d mc ms X (px_QF Post mc ms) 49 [] [] sh t L R n cu su)) (fun a r h g => s_X6_addNumber_3b (x1 := x1) (x2 := a.1) (M := a.2) (L := L) (R := R) hS hd hcu hsu h g) (a := (x2, M)) h g
  exact key
noncomputable def f_X6_addNumber (M : px_M) (p1 : Int32) : Option (px_M) :=
  bd1 (lpf (fun a : Int32 × px_M => f_X6_addNumber_3 a.2 p1 a.1) (24, M)) fun e_3 =>
  some e_3
theorem s_X6_addNumber {d : Nat} {X : Nat × (Nat → Int32)} {sh : px_Sh} {M : px_M} {L : px_L} {R : px_R} {n : Nat} {p1 : Int32} {e : px_M} (hS : SR sh R) (hd : 0 ≤ d) (h : f_X6_addNumber M p1 = some e) : MX yX6_addNumber cX6_addNumber 3 none d 0 0 X [.ref 20, .int p1] sh M L R n (px_pu none sh e L R n) := by
  refine MX.of (by decide +kernel) (by exact Nat.le_of_ble_eq_true rfl) ?_
  have hcu : 0 ≤ 0 := Nat.zero_le _
  have hsu : 0 ≤ 0 := Nat.zero_le _
  have g : px_pu none sh e L R n none sh e L R n := ⟨rfl, rfl, rfl, rfl, rfl, rfl⟩
  unfold f_X6_addNumber at h
  refine wx_bipush (v := 24) dX6_addNumber_0 (by decide) ?_
  refine wx_istore_n (lv' := [(2, _), (0, _), (1, _)]) dX6_addNumber_2 (by decide) rfl ?_
  obtain ⟨e_3, k_3, h⟩ := bd1_some h
  refine wx_sub (s_X6_addNumber_3 hS hd hcu hsu k_3 ?_) (px_s rfl (px_s rfl (px_s rfl px_0)))
  refine wx_vret dX6_addNumber_49 hcu hsu ?_
  obtain rfl := Option.some.inj h
  exact g
noncomputable def f_X6_scanWord_141 (M : px_M) (x1 : Int32) (x3 : Int32) (z0 : Int32) (z1 : Int32) : Option ((Int32 × Int32) ⊕ (Int32)) :=
  nm (z1 + z0) fun v_142 =>
  some (.inl (v_142, (x3 + 1)))
theorem s_X6_scanWord_141 {x1 : Int32} {x3 : Int32} {z0 : Int32} {z1 : Int32} {M : px_M} {L : px_L} {R : px_R} {e : ((Int32 × Int32) ⊕ (Int32))} (hS : SR sh R) (hd : 4 ≤ d) (hcu : cu ≤ mc) (hsu : su ≤ ms) (h : f_X6_scanWord_141 M x1 x3 z0 z1 = some e) (g : (sE (fun a => WX RX6 cX6_scanWord 5 none ("scanWord", []) d mc ms X (px_QF Post mc ms) 84 [(0, .ref 20), (1, .int x1), (2, .int a.1), (3, .int a.2)] [] sh M L R n cu su) (fun t => WX RX6 cX6_scanWord 5 none ("scanWord", []) d mc ms X (px_QF Post mc ms) 149 [(0, .ref 20), (1, .int x1), (2, .int t)] [] sh M L R n cu su)) e) : WX RX6 cX6_scanWord 5 none ("scanWord", []) d mc ms X (px_QF Post mc ms) 141 [(0, .ref 20), (1, .int x1), (3, .int x3)] [.int z0, .int z1] sh M L R n cu su := by
  unfold f_X6_scanWord_141 at h
  refine wx_iadd dX6_scanWord_141 ?_
  refine wx_nami (fun v_142 q_142 => ?_)
  replace h := nm_at h q_142
  refine wx_istore_n (lv' := [(2, _), (0, _), (1, _), (3, _)]) dX6_scanWord_142 (by decide) rfl ?_
  refine wx_iinc (lv' := [(3, _), (2, _), (0, _), (1, _)]) dX6_scanWord_143 rfl (i_1 _) (by decide) rfl ?_
  refine wx_goto (tgt := 84) dX6_scanWord_146 (by decide) ?_
  obtain rfl := Option.some.inj h
  replace g := sE_l g
  exact wx_sub g (px_s rfl (px_s rfl (px_s rfl (px_s rfl px_0))))
noncomputable def f_X6_scanWord_118 (M : px_M) (x1 : Int32) (x2 : Int32) (x3 : Int32) (z0 : Int32) : Option ((Int32 × Int32) ⊕ (Int32)) :=
  nm ((x1 * 5) + x3) fun v_130 =>
  ok (ix v_130 80) <|
  if z0 = (px_ch v_130.toNatClampNeg) then
    f_X6_scanWord_141 M x1 x3 1 x2
  else
    f_X6_scanWord_141 M x1 x3 0 x2
theorem s_X6_scanWord_118 {x1 : Int32} {x2 : Int32} {x3 : Int32} {z0 : Int32} {M : px_M} {L : px_L} {R : px_R} {e : ((Int32 × Int32) ⊕ (Int32))} (hS : SR sh R) (hd : 4 ≤ d) (hcu : cu ≤ mc) (hsu : su ≤ ms) (h : f_X6_scanWord_118 M x1 x2 x3 z0 = some e) (g : (sE (fun a => WX RX6 cX6_scanWord 5 none ("scanWord", []) d mc ms X (px_QF Post mc ms) 84 [(0, .ref 20), (1, .int x1), (2, .int a.1), (3, .int a.2)] [] sh M L R n cu su) (fun t => WX RX6 cX6_scanWord 5 none ("scanWord", []) d mc ms X (px_QF Post mc ms) 149 [(0, .ref 20), (1, .int x1), (2, .int t)] [] sh M L R n cu su)) e) : WX RX6 cX6_scanWord 5 none ("scanWord", []) d mc ms X (px_QF Post mc ms) 118 [(0, .ref 20), (1, .int x1), (2, .int x2), (3, .int x3)] [.int z0] sh M L R n cu su := by
  unfold f_X6_scanWord_118 at h
  refine wx_istore (lv' := [(4, _), (0, _), (1, _), (2, _), (3, _)]) dX6_scanWord_118 (by decide) rfl ?_
  refine wx_iload_n dX6_scanWord_120 rfl ?_
  refine wx_iload dX6_scanWord_121 rfl ?_
  refine wx_ldcW dX6_scanWord_123 ?_
  refine wx_iload_n dX6_scanWord_125 rfl ?_
  refine wx_iconst (v := 5) dX6_scanWord_126 (by decide) ?_
  refine wx_imul dX6_scanWord_127 ?_
  refine wx_iload_n dX6_scanWord_128 rfl ?_
  refine wx_iadd dX6_scanWord_129 ?_
  refine wx_nami (fun v_130 q_130 => ?_)
  replace h := nm_at h q_130
  obtain ⟨w_130, h⟩ := ok_some h
  refine wx_callVE (av := [.int v_130]) dX6_scanWord_130 ml_X6_123 my_J0_charAt_5068e ws_ivC (m_charAt (d := d - 1) (by omega) (ix_in w_130)) rfl (by omega) (by exact Nat.le_of_ble_eq_true rfl) hcu hsu ?_
  refine wx_icmp_ne (tgt := 140) dX6_scanWord_133 (by decide) (fun c_133 => ?_) (fun c_133 => ?_)
  · replace h := it_f h c_133
    refine wx_iconst (v := 0) dX6_scanWord_140 (by decide) ?_
    exact wx_sub (s_X6_scanWord_141 hS hd hcu hsu h g) (px_s rfl (px_s rfl (px_s rfl px_0)))
  · replace h := it_t h c_133
    refine wx_iconst (v := 1) dX6_scanWord_136 (by decide) ?_
    refine wx_goto (tgt := 141) dX6_scanWord_137 (by decide) ?_
    exact wx_sub (s_X6_scanWord_141 hS hd hcu hsu h g) (px_s rfl (px_s rfl (px_s rfl px_0)))
noncomputable def f_X6_scanWord_84 (M : px_M) (x1 : Int32) (x2 : Int32) (x3 : Int32) : Option ((Int32 × Int32) ⊕ (Int32)) :=
  if 5 ≤ x3 then
    some (.inr x2)
  else
    if (M 20 4) ≤ ((M 20 3) + x3) then
      f_X6_scanWord_118 M x1 x2 x3 32
    else
      nm ((M 20 3) + x3) fun v_112 =>
      ok (ix v_112 300) <|
      f_X6_scanWord_118 M x1 x2 x3 (M 21 v_112.toNatClampNeg)
theorem s_X6_scanWord_84b {x1 : Int32} {x2 : Int32} {x3 : Int32} {M : px_M} {L : px_L} {R : px_R} {e : ((Int32 × Int32) ⊕ (Int32))} (hS : SR sh R) (hd : 4 ≤ d) (hcu : cu ≤ mc) (hsu : su ≤ ms) (h : f_X6_scanWord_84 M x1 x2 x3 = some e) (g : (sE (fun a => WX RX6 cX6_scanWord 5 none ("scanWord", []) d mc ms X (px_QF Post mc ms) 84 [(0, .ref 20), (1, .int x1), (2, .int a.1), (3, .int a.2)] [] sh M L R n cu su) (fun t => WX RX6 cX6_scanWord 5 none ("scanWord", []) d mc ms X (px_QF Post mc ms) 149 [(0, .ref 20), (1, .int x1), (2, .int t)] [] sh M L R n cu su)) e) : WX RX6 cX6_scanWord 5 none ("scanWord", []) d mc ms X (px_QF Post mc ms) 84 [(0, .ref 20), (1, .int x1), (2, .int x2), (3, .int x3)] [] sh M L R n cu su := by
  unfold f_X6_scanWord_84 at h
  refine wx_iload_n dX6_scanWord_84 rfl ?_
  refine wx_iconst (v := 5) dX6_scanWord_85 (by decide) ?_
  refine wx_icmp_ge (tgt := 149) dX6_scanWord_86 (by decide) (fun c_86 => ?_) (fun c_86 => ?_)
  · replace h := it_t h c_86
    obtain rfl := Option.some.inj h
    replace g := sE_r g
    exact wx_sub g (px_s rfl (px_s rfl (px_s rfl px_0)))
  · replace h := it_f h c_86
    refine wx_aload_n dX6_scanWord_89 rfl ?_
    refine wx_getI dX6_scanWord_90 fl_X6_63 (sc_20 hS) rfl ?_
    refine wx_iload_n dX6_scanWord_93 rfl ?_
    refine wx_iadd dX6_scanWord_94 ?_
    refine wx_aload_n dX6_scanWord_95 rfl ?_
    refine wx_getI dX6_scanWord_96 fl_X6_41 (sc_20 hS) rfl ?_
    refine wx_icmp_ge (tgt := 116) dX6_scanWord_99 (by decide) (fun c_99 => ?_) (fun c_99 => ?_)
    · replace h := it_t h c_99
      refine wx_bipush (v := 32) dX6_scanWord_116 (by decide) ?_
      exact wx_sub (s_X6_scanWord_118 hS hd hcu hsu h g) (px_s rfl (px_s rfl (px_s rfl (px_s rfl px_0))))
    · replace h := it_f h c_99
      refine wx_aload_n dX6_scanWord_102 rfl ?_
      refine wx_getR dX6_scanWord_103 fl_X6_11 (sc_20 hS) rfl (rr_20_0 hS) ?_
      refine wx_aload_n dX6_scanWord_106 rfl ?_
      refine wx_getI dX6_scanWord_107 fl_X6_63 (sc_20 hS) rfl ?_
      refine wx_iload_n dX6_scanWord_110 rfl ?_
      refine wx_iadd dX6_scanWord_111 ?_
      refine wx_nami (fun v_112 q_112 => ?_)
      replace h := nm_at h q_112
      obtain ⟨w_112, h⟩ := ok_some h
      refine wx_iald dX6_scanWord_112 (sc_21 hS) (ix_in w_112) ?_
      refine wx_goto (tgt := 118) dX6_scanWord_113 (by decide) ?_
      exact wx_sub (s_X6_scanWord_118 hS hd hcu hsu h g) (px_s rfl (px_s rfl (px_s rfl (px_s rfl px_0))))
theorem s_X6_scanWord_84 {x1 : Int32} {x2 : Int32} {x3 : Int32} {M : px_M} {L : px_L} {R : px_R} {e : (Int32)} (hS : SR sh R) (hd : 4 ≤ d) (hcu : cu ≤ mc) (hsu : su ≤ ms) (h : lpf (fun a : Int32 × Int32 => f_X6_scanWord_84 M x1 a.1 a.2) (x2, x3) = some e) (g : WX RX6 cX6_scanWord 5 none ("scanWord", []) d mc ms X (px_QF Post mc ms) 149 [(0, .ref 20), (1, .int x1), (2, .int e)] [] sh M L R n cu su) : WX RX6 cX6_scanWord 5 none ("scanWord", []) d mc ms X (px_QF Post mc ms) 84 [(0, .ref 20), (1, .int x1), (2, .int x2), (3, .int x3)] [] sh M L R n cu su := by
  have key := lpf_wp (P := (fun a => WX RX6 cX6_scanWord 5 none ("scanWord", []) d mc ms X (px_QF Post mc ms) 84 [(0, .ref 20), (1, .int x1), (2, .int a.1), (3, .int a.2)] [] sh M L R n cu su)) (G := (fun t => WX RX6 cX6_scanWord 5 none ("scanWord", []) d mc ms X (px_QF Post mc ms) 149 [(0, .ref 20), (1, .int x1), (2, .int t)] [] sh M L R n cu su)) (fun a r h g => s_X6_scanWord_84b (x1 := x1) (x2 := a.1) (x3 := a.2) (M := M) (L := L) (R := R) hS hd hcu hsu h g) (a := (x2, x3)) h g
  exact key
noncomputable def f_X6_scanWord_163 (M : px_M) (x1 : Int32) : Option ((Int32 × px_M) ⊕ (px_M)) :=
  some (.inl ((x1 + 1), M))
theorem s_X6_scanWord_163 {x1 : Int32} {M : px_M} {L : px_L} {R : px_R} {e : ((Int32 × px_M) ⊕ (px_M))} (hS : SR sh R) (hd : 4 ≤ d) (hcu : cu ≤ mc) (hsu : su ≤ ms) (h : f_X6_scanWord_163 M x1 = some e) (g : (sE (fun a => WX RX6 cX6_scanWord 5 none ("scanWord", []) d mc ms X (px_QF Post mc ms) 61 [(0, .ref 20), (1, .int a.1)] [] sh (a.2) L R n cu su) (fun t => WX RX6 cX6_scanWord 5 none ("scanWord", []) d mc ms X (px_QF Post mc ms) 169 [] [] sh t L R n cu su)) e) : WX RX6 cX6_scanWord 5 none ("scanWord", []) d mc ms X (px_QF Post mc ms) 163 [(0, .ref 20), (1, .int x1)] [] sh M L R n cu su := by
  unfold f_X6_scanWord_163 at h
  refine wx_iinc (lv' := [(1, _), (0, _)]) dX6_scanWord_163 rfl (i_1 _) (by decide) rfl ?_
  refine wx_goto (tgt := 61) dX6_scanWord_166 (by decide) ?_
  obtain rfl := Option.some.inj h
  replace g := sE_l g
  exact wx_sub g (px_s rfl (px_s rfl px_0))
noncomputable def f_X6_scanWord_61 (M : px_M) (x1 : Int32) : Option ((Int32 × px_M) ⊕ (px_M)) :=
  if 16 ≤ x1 then
    some (.inr M)
  else
    if 5 < ((M 20 4) - (M 20 3)) then
      some (.inr M)
    else
      bd1 (lpf (fun a : Int32 × Int32 => f_X6_scanWord_84 M x1 a.1 a.2) (0, 0)) fun e_84 =>
      if e_84 = 5 then
        nm (300 + x1) fun v_160 =>
        nm (px_u M 20 5 v_160) fun M_160 =>
        f_X6_scanWord_163 M_160 x1
      else
        f_X6_scanWord_163 M x1
theorem s_X6_scanWord_61b {x1 : Int32} {M : px_M} {L : px_L} {R : px_R} {e : ((Int32 × px_M) ⊕ (px_M))} (hS : SR sh R) (hd : 4 ≤ d) (hcu : cu ≤ mc) (hsu : su ≤ ms) (h : f_X6_scanWord_61 M x1 = some e) (g : (sE (fun a => WX RX6 cX6_scanWord 5 none ("scanWord", []) d mc ms X (px_QF Post mc ms) 61 [(0, .ref 20), (1, .int a.1)] [] sh (a.2) L R n cu su) (fun t => WX RX6 cX6_scanWord 5 none ("scanWord", []) d mc ms X (px_QF Post mc ms) 169 [] [] sh t L R n cu su)) e) : WX RX6 cX6_scanWord 5 none ("scanWord", []) d mc ms X (px_QF Post mc ms) 61 [(0, .ref 20), (1, .int x1)] [] sh M L R n cu su := by
  unfold f_X6_scanWord_61 at h
  refine wx_iload_n dX6_scanWord_61 rfl ?_
  refine wx_bipush (v := 16) dX6_scanWord_62 (by decide) ?_
  refine wx_icmp_ge (tgt := 169) dX6_scanWord_64 (by decide) (fun c_64 => ?_) (fun c_64 => ?_)
  · replace h := it_t h c_64
    obtain rfl := Option.some.inj h
    replace g := sE_r g
    exact wx_sub g px_0
  · replace h := it_f h c_64
    refine wx_aload_n dX6_scanWord_67 rfl ?_
    refine wx_getI dX6_scanWord_68 fl_X6_41 (sc_20 hS) rfl ?_
    refine wx_aload_n dX6_scanWord_71 rfl ?_
    refine wx_getI dX6_scanWord_72 fl_X6_63 (sc_20 hS) rfl ?_
    refine wx_isub dX6_scanWord_75 ?_
    refine wx_iconst (v := 5) dX6_scanWord_76 (by decide) ?_
    refine wx_icmp_gt (tgt := 169) dX6_scanWord_77 (by decide) (fun c_77 => ?_) (fun c_77 => ?_)
    · replace h := it_t h c_77
      obtain rfl := Option.some.inj h
      replace g := sE_r g
      exact wx_sub g px_0
    · replace h := it_f h c_77
      refine wx_iconst (v := 0) dX6_scanWord_80 (by decide) ?_
      refine wx_istore_n (lv' := [(2, _), (0, _), (1, _)]) dX6_scanWord_81 (by decide) rfl ?_
      refine wx_iconst (v := 0) dX6_scanWord_82 (by decide) ?_
      refine wx_istore_n (lv' := [(3, _), (2, _), (0, _), (1, _)]) dX6_scanWord_83 (by decide) rfl ?_
      obtain ⟨e_84, k_84, h⟩ := bd1_some h
      refine wx_sub (s_X6_scanWord_84 hS hd hcu hsu k_84 ?_) (px_s rfl (px_s rfl (px_s rfl (px_s rfl px_0))))
      refine wx_iload_n dX6_scanWord_149 rfl ?_
      refine wx_iconst (v := 5) dX6_scanWord_150 (by decide) ?_
      refine wx_icmp_ne (tgt := 163) dX6_scanWord_151 (by decide) (fun c_151 => ?_) (fun c_151 => ?_)
      · replace h := it_f h c_151
        exact wx_sub (s_X6_scanWord_163 hS hd hcu hsu h g) (px_s rfl (px_s rfl px_0))
      · replace h := it_t h c_151
        refine wx_aload_n dX6_scanWord_154 rfl ?_
        refine wx_sipush (v := 300) dX6_scanWord_155 (by decide) ?_
        refine wx_iload_n dX6_scanWord_158 rfl ?_
        refine wx_iadd dX6_scanWord_159 ?_
        refine wx_nami (fun v_160 q_160 => ?_)
        replace h := nm_at h q_160
        refine wx_putI dX6_scanWord_160 fl_X6_57 (sc_20 hS) (Or.inl rfl) rfl ⟨rfl, rfl⟩ ?_
        refine wx_namM (fun M_160 q_160 => ?_)
        replace h := nm_at h q_160
        exact wx_sub (s_X6_scanWord_163 hS hd hcu hsu h g) (px_s rfl (px_s rfl px_0))
theorem s_X6_scanWord_61 {x1 : Int32} {M : px_M} {L : px_L} {R : px_R} {e : (px_M)} (hS : SR sh R) (hd : 4 ≤ d) (hcu : cu ≤ mc) (hsu : su ≤ ms) (h : lpf (fun a : Int32 × px_M => f_X6_scanWord_61 a.2 a.1) (x1, M) = some e) (g : WX RX6 cX6_scanWord 5 none ("scanWord", []) d mc ms X (px_QF Post mc ms) 169 [] [] sh e L R n cu su) : WX RX6 cX6_scanWord 5 none ("scanWord", []) d mc ms X (px_QF Post mc ms) 61 [(0, .ref 20), (1, .int x1)] [] sh M L R n cu su := by
  have key := lpf_wp (P := (fun a => WX RX6 cX6_scanWord 5 none ("scanWord", []) d mc ms X (px_QF Post mc ms) 61 [(0, .ref 20), (1, .int a.1)] [] sh (a.2) L R n cu su)) (G := (fun t => WX RX6 cX6_scanWord 5 none ("scanWord", []) d mc ms X (px_QF Post mc ms) 169 [] [] sh t L R n cu su)) (fun a r h g => s_X6_scanWord_61b (x1 := a.1) (M := a.2) (L := L) (R := R) hS hd hcu hsu h g) (a := (x1, M)) h g
  exact key
noncomputable def f_X6_scanWord_0 (M : px_M) : Option ((px_M) ⊕ (px_M)) :=
  if (M 20 2) ≤ (M 20 4) then
    some (.inr M)
  else
    nm (M 20 4) fun v_19 =>
    ok (ix v_19 300) <|
    if (M 21 v_19.toNatClampNeg) < 97 then
      some (.inr M)
    else
      nm (M 20 4) fun v_33 =>
      ok (ix v_33 300) <|
      if 122 < (M 21 v_33.toNatClampNeg) then
        some (.inr M)
      else
        nm ((M 20 4) + 1) fun v_46 =>
        nm (px_u M 20 4 v_46) fun M_46 =>
        some (.inl M_46)
theorem s_X6_scanWord_0b {M : px_M} {L : px_L} {R : px_R} {e : ((px_M) ⊕ (px_M))} (hS : SR sh R) (hd : 4 ≤ d) (hcu : cu ≤ mc) (hsu : su ≤ ms) (h : f_X6_scanWord_0 M = some e) (g : (sE (fun a => WX RX6 cX6_scanWord 5 none ("scanWord", []) d mc ms X (px_QF Post mc ms) 0 [(0, .ref 20)] [] sh a L R n cu su) (fun t => WX RX6 cX6_scanWord 5 none ("scanWord", []) d mc ms X (px_QF Post mc ms) 52 [(0, .ref 20)] [] sh t L R n cu su)) e) : WX RX6 cX6_scanWord 5 none ("scanWord", []) d mc ms X (px_QF Post mc ms) 0 [(0, .ref 20)] [] sh M L R n cu su := by
  unfold f_X6_scanWord_0 at h
  refine wx_aload_n dX6_scanWord_0 rfl ?_
  refine wx_getI dX6_scanWord_1 fl_X6_41 (sc_20 hS) rfl ?_
  refine wx_aload_n dX6_scanWord_4 rfl ?_
  refine wx_getI dX6_scanWord_5 fl_X6_35 (sc_20 hS) rfl ?_
  refine wx_icmp_ge (tgt := 52) dX6_scanWord_8 (by decide) (fun c_8 => ?_) (fun c_8 => ?_)
  · replace h := it_t h c_8
    obtain rfl := Option.some.inj h
    replace g := sE_r g
    exact wx_sub g (px_s rfl px_0)
  · replace h := it_f h c_8
    refine wx_aload_n dX6_scanWord_11 rfl ?_
    refine wx_getR dX6_scanWord_12 fl_X6_11 (sc_20 hS) rfl (rr_20_0 hS) ?_
    refine wx_aload_n dX6_scanWord_15 rfl ?_
    refine wx_getI dX6_scanWord_16 fl_X6_41 (sc_20 hS) rfl ?_
    refine wx_nami (fun v_19 q_19 => ?_)
    replace h := nm_at h q_19
    obtain ⟨w_19, h⟩ := ok_some h
    refine wx_iald dX6_scanWord_19 (sc_21 hS) (ix_in w_19) ?_
    refine wx_bipush (v := 97) dX6_scanWord_20 (by decide) ?_
    refine wx_icmp_lt (tgt := 52) dX6_scanWord_22 (by decide) (fun c_22 => ?_) (fun c_22 => ?_)
    · replace h := it_t h c_22
      obtain rfl := Option.some.inj h
      replace g := sE_r g
      exact wx_sub g (px_s rfl px_0)
    · replace h := it_f h c_22
      refine wx_aload_n dX6_scanWord_25 rfl ?_
      refine wx_getR dX6_scanWord_26 fl_X6_11 (sc_20 hS) rfl (rr_20_0 hS) ?_
      refine wx_aload_n dX6_scanWord_29 rfl ?_
      refine wx_getI dX6_scanWord_30 fl_X6_41 (sc_20 hS) rfl ?_
      refine wx_nami (fun v_33 q_33 => ?_)
      replace h := nm_at h q_33
      obtain ⟨w_33, h⟩ := ok_some h
      refine wx_iald dX6_scanWord_33 (sc_21 hS) (ix_in w_33) ?_
      refine wx_bipush (v := 122) dX6_scanWord_34 (by decide) ?_
      refine wx_icmp_gt (tgt := 52) dX6_scanWord_36 (by decide) (fun c_36 => ?_) (fun c_36 => ?_)
      · replace h := it_t h c_36
        obtain rfl := Option.some.inj h
        replace g := sE_r g
        exact wx_sub g (px_s rfl px_0)
      · replace h := it_f h c_36
        refine wx_aload_n dX6_scanWord_39 rfl ?_
        refine wx_dup dX6_scanWord_40 rfl ?_
        refine wx_getI dX6_scanWord_41 fl_X6_41 (sc_20 hS) rfl ?_
        refine wx_iconst (v := 1) dX6_scanWord_44 (by decide) ?_
        refine wx_iadd dX6_scanWord_45 ?_
        refine wx_nami (fun v_46 q_46 => ?_)
        replace h := nm_at h q_46
        refine wx_putI dX6_scanWord_46 fl_X6_41 (sc_20 hS) (Or.inl rfl) rfl ⟨rfl, rfl⟩ ?_
        refine wx_namM (fun M_46 q_46 => ?_)
        replace h := nm_at h q_46
        refine wx_goto (tgt := 0) dX6_scanWord_49 (by decide) ?_
        obtain rfl := Option.some.inj h
        replace g := sE_l g
        exact wx_sub g (px_s rfl px_0)
theorem s_X6_scanWord_0 {M : px_M} {L : px_L} {R : px_R} {e : (px_M)} (hS : SR sh R) (hd : 4 ≤ d) (hcu : cu ≤ mc) (hsu : su ≤ ms) (h : lpf (fun a : px_M => f_X6_scanWord_0 a) M = some e) (g : WX RX6 cX6_scanWord 5 none ("scanWord", []) d mc ms X (px_QF Post mc ms) 52 [(0, .ref 20)] [] sh e L R n cu su) : WX RX6 cX6_scanWord 5 none ("scanWord", []) d mc ms X (px_QF Post mc ms) 0 [(0, .ref 20)] [] sh M L R n cu su := by
  have key := lpf_wp (P := (fun a => WX RX6 cX6_scanWord 5 none ("scanWord", []) d mc ms X (px_QF Post mc ms) 0 [(0, .ref 20)] [] sh a L R n cu su)) (G := (fun t => WX RX6 cX6_scanWord 5 none ("scanWord", []) d mc ms X (px_QF Post mc ms) 52 [(0, .ref 20)] [] sh t L R n cu su)) (fun a r h g => s_X6_scanWord_0b (M := a) (L := L) (R := R) hS hd hcu hsu h g) (a := M) h g
  exact key
noncomputable def f_X6_scanWord (M : px_M) : Option (px_M) :=
  bd1 (lpf (fun a : px_M => f_X6_scanWord_0 a) M) fun e_0 =>
  nm (px_u e_0 20 5 316) fun M_56 =>
  bd1 (lpf (fun a : Int32 × px_M => f_X6_scanWord_61 a.2 a.1) (0, M_56)) fun e_61 =>
  some e_61
theorem s_X6_scanWord {d : Nat} {X : Nat × (Nat → Int32)} {sh : px_Sh} {M : px_M} {L : px_L} {R : px_R} {n : Nat} {e : px_M} (hS : SR sh R) (hd : 4 ≤ d) (h : f_X6_scanWord M = some e) : MX yX6_scanWord cX6_scanWord 5 none d 0 0 X [.ref 20] sh M L R n (px_pu none sh e L R n) := by
  refine MX.of (by decide +kernel) (by exact Nat.le_of_ble_eq_true rfl) ?_
  have hcu : 0 ≤ 0 := Nat.zero_le _
  have hsu : 0 ≤ 0 := Nat.zero_le _
  have g : px_pu none sh e L R n none sh e L R n := ⟨rfl, rfl, rfl, rfl, rfl, rfl⟩
  unfold f_X6_scanWord at h
  obtain ⟨e_0, k_0, h⟩ := bd1_some h
  refine wx_sub (s_X6_scanWord_0 hS hd hcu hsu k_0 ?_) (px_s rfl px_0)
  refine wx_aload_n dX6_scanWord_52 rfl ?_
  refine wx_sipush (v := 316) dX6_scanWord_53 (by decide) ?_
  refine wx_putI dX6_scanWord_56 fl_X6_57 (sc_20 hS) (Or.inl rfl) rfl ⟨rfl, rfl⟩ ?_
  refine wx_namM (fun M_56 q_56 => ?_)
  replace h := nm_at h q_56
  refine wx_iconst (v := 0) dX6_scanWord_59 (by decide) ?_
  refine wx_istore_n (lv' := [(1, _), (0, _)]) dX6_scanWord_60 (by decide) rfl ?_
  obtain ⟨e_61, k_61, h⟩ := bd1_some h
  refine wx_sub (s_X6_scanWord_61 hS hd hcu hsu k_61 ?_) (px_s rfl (px_s rfl px_0))
  refine wx_vret dX6_scanWord_169 hcu hsu ?_
  obtain rfl := Option.some.inj h
  exact g
noncomputable def f_X6_scanNumber_85 (M : px_M) : Option ((px_M) ⊕ (px_M)) :=
  nm ((M 20 4) + 1) fun v_92 =>
  nm (px_u M 20 4 v_92) fun M_92 =>
  some (.inl M_92)
theorem s_X6_scanNumber_85 {M : px_M} {L : px_L} {R : px_R} {e : ((px_M) ⊕ (px_M))} (hS : SR sh R) (hd : 0 ≤ d) (hcu : cu ≤ mc) (hsu : su ≤ ms) (h : f_X6_scanNumber_85 M = some e) (g : (sE (fun a => WX RX6 cX6_scanNumber 1 none ("scanNumber", []) d mc ms X (px_QF Post mc ms) 12 [(0, .ref 20)] [] sh a L R n cu su) (fun t => WX RX6 cX6_scanNumber 1 none ("scanNumber", []) d mc ms X (px_QF Post mc ms) 98 [] [] sh t L R n cu su)) e) : WX RX6 cX6_scanNumber 1 none ("scanNumber", []) d mc ms X (px_QF Post mc ms) 85 [(0, .ref 20)] [] sh M L R n cu su := by
  unfold f_X6_scanNumber_85 at h
  refine wx_aload_n dX6_scanNumber_85 rfl ?_
  refine wx_dup dX6_scanNumber_86 rfl ?_
  refine wx_getI dX6_scanNumber_87 fl_X6_41 (sc_20 hS) rfl ?_
  refine wx_iconst (v := 1) dX6_scanNumber_90 (by decide) ?_
  refine wx_iadd dX6_scanNumber_91 ?_
  refine wx_nami (fun v_92 q_92 => ?_)
  replace h := nm_at h q_92
  refine wx_putI dX6_scanNumber_92 fl_X6_41 (sc_20 hS) (Or.inl rfl) rfl ⟨rfl, rfl⟩ ?_
  refine wx_namM (fun M_92 q_92 => ?_)
  replace h := nm_at h q_92
  refine wx_goto (tgt := 12) dX6_scanNumber_95 (by decide) ?_
  obtain rfl := Option.some.inj h
  replace g := sE_l g
  exact wx_sub g (px_s rfl px_0)
noncomputable def f_X6_scanNumber_12 (M : px_M) : Option ((px_M) ⊕ (px_M)) :=
  if (M 20 2) ≤ (M 20 4) then
    some (.inr M)
  else
    nm (M 20 4) fun v_31 =>
    ok (ix v_31 300) <|
    if (M 21 v_31.toNatClampNeg) < 48 then
      some (.inr M)
    else
      nm (M 20 4) fun v_45 =>
      ok (ix v_45 300) <|
      if 57 < (M 21 v_45.toNatClampNeg) then
        some (.inr M)
      else
        if 9999 < (M 20 6) then
          f_X6_scanNumber_85 M
        else
          nm (M 20 4) fun v_77 =>
          ok (ix v_77 300) <|
          nm (((10 * (M 20 6)) + (M 21 v_77.toNatClampNeg)) - 48) fun v_82 =>
          nm (px_u M 20 6 v_82) fun M_82 =>
          f_X6_scanNumber_85 M_82
theorem s_X6_scanNumber_12b {M : px_M} {L : px_L} {R : px_R} {e : ((px_M) ⊕ (px_M))} (hS : SR sh R) (hd : 0 ≤ d) (hcu : cu ≤ mc) (hsu : su ≤ ms) (h : f_X6_scanNumber_12 M = some e) (g : (sE (fun a => WX RX6 cX6_scanNumber 1 none ("scanNumber", []) d mc ms X (px_QF Post mc ms) 12 [(0, .ref 20)] [] sh a L R n cu su) (fun t => WX RX6 cX6_scanNumber 1 none ("scanNumber", []) d mc ms X (px_QF Post mc ms) 98 [] [] sh t L R n cu su)) e) : WX RX6 cX6_scanNumber 1 none ("scanNumber", []) d mc ms X (px_QF Post mc ms) 12 [(0, .ref 20)] [] sh M L R n cu su := by
  unfold f_X6_scanNumber_12 at h
  refine wx_aload_n dX6_scanNumber_12 rfl ?_
  refine wx_getI dX6_scanNumber_13 fl_X6_41 (sc_20 hS) rfl ?_
  refine wx_aload_n dX6_scanNumber_16 rfl ?_
  refine wx_getI dX6_scanNumber_17 fl_X6_35 (sc_20 hS) rfl ?_
  refine wx_icmp_ge (tgt := 98) dX6_scanNumber_20 (by decide) (fun c_20 => ?_) (fun c_20 => ?_)
  · replace h := it_t h c_20
    obtain rfl := Option.some.inj h
    replace g := sE_r g
    exact wx_sub g px_0
  · replace h := it_f h c_20
    refine wx_aload_n dX6_scanNumber_23 rfl ?_
    refine wx_getR dX6_scanNumber_24 fl_X6_11 (sc_20 hS) rfl (rr_20_0 hS) ?_
    refine wx_aload_n dX6_scanNumber_27 rfl ?_
    refine wx_getI dX6_scanNumber_28 fl_X6_41 (sc_20 hS) rfl ?_
    refine wx_nami (fun v_31 q_31 => ?_)
    replace h := nm_at h q_31
    obtain ⟨w_31, h⟩ := ok_some h
    refine wx_iald dX6_scanNumber_31 (sc_21 hS) (ix_in w_31) ?_
    refine wx_bipush (v := 48) dX6_scanNumber_32 (by decide) ?_
    refine wx_icmp_lt (tgt := 98) dX6_scanNumber_34 (by decide) (fun c_34 => ?_) (fun c_34 => ?_)
    · replace h := it_t h c_34
      obtain rfl := Option.some.inj h
      replace g := sE_r g
      exact wx_sub g px_0
    · replace h := it_f h c_34
      refine wx_aload_n dX6_scanNumber_37 rfl ?_
      refine wx_getR dX6_scanNumber_38 fl_X6_11 (sc_20 hS) rfl (rr_20_0 hS) ?_
      refine wx_aload_n dX6_scanNumber_41 rfl ?_
      refine wx_getI dX6_scanNumber_42 fl_X6_41 (sc_20 hS) rfl ?_
      refine wx_nami (fun v_45 q_45 => ?_)
      replace h := nm_at h q_45
      obtain ⟨w_45, h⟩ := ok_some h
      refine wx_iald dX6_scanNumber_45 (sc_21 hS) (ix_in w_45) ?_
      refine wx_bipush (v := 57) dX6_scanNumber_46 (by decide) ?_
      refine wx_icmp_gt (tgt := 98) dX6_scanNumber_48 (by decide) (fun c_48 => ?_) (fun c_48 => ?_)
      · replace h := it_t h c_48
        obtain rfl := Option.some.inj h
        replace g := sE_r g
        exact wx_sub g px_0
      · replace h := it_f h c_48
        refine wx_aload_n dX6_scanNumber_51 rfl ?_
        refine wx_getI dX6_scanNumber_52 fl_X6_112 (sc_20 hS) rfl ?_
        refine wx_sipush (v := 9999) dX6_scanNumber_55 (by decide) ?_
        refine wx_icmp_gt (tgt := 85) dX6_scanNumber_58 (by decide) (fun c_58 => ?_) (fun c_58 => ?_)
        · replace h := it_t h c_58
          exact wx_sub (s_X6_scanNumber_85 hS hd hcu hsu h g) (px_s rfl px_0)
        · replace h := it_f h c_58
          refine wx_aload_n dX6_scanNumber_61 rfl ?_
          refine wx_bipush (v := 10) dX6_scanNumber_62 (by decide) ?_
          refine wx_aload_n dX6_scanNumber_64 rfl ?_
          refine wx_getI dX6_scanNumber_65 fl_X6_112 (sc_20 hS) rfl ?_
          refine wx_imul dX6_scanNumber_68 ?_
          refine wx_aload_n dX6_scanNumber_69 rfl ?_
          refine wx_getR dX6_scanNumber_70 fl_X6_11 (sc_20 hS) rfl (rr_20_0 hS) ?_
          refine wx_aload_n dX6_scanNumber_73 rfl ?_
          refine wx_getI dX6_scanNumber_74 fl_X6_41 (sc_20 hS) rfl ?_
          refine wx_nami (fun v_77 q_77 => ?_)
          replace h := nm_at h q_77
          obtain ⟨w_77, h⟩ := ok_some h
          refine wx_iald dX6_scanNumber_77 (sc_21 hS) (ix_in w_77) ?_
          refine wx_iadd dX6_scanNumber_78 ?_
          refine wx_bipush (v := 48) dX6_scanNumber_79 (by decide) ?_
          refine wx_isub dX6_scanNumber_81 ?_
          refine wx_nami (fun v_82 q_82 => ?_)
          replace h := nm_at h q_82
          refine wx_putI dX6_scanNumber_82 fl_X6_112 (sc_20 hS) (Or.inl rfl) rfl ⟨rfl, rfl⟩ ?_
          refine wx_namM (fun M_82 q_82 => ?_)
          replace h := nm_at h q_82
          exact wx_sub (s_X6_scanNumber_85 hS hd hcu hsu h g) (px_s rfl px_0)
theorem s_X6_scanNumber_12 {M : px_M} {L : px_L} {R : px_R} {e : (px_M)} (hS : SR sh R) (hd : 0 ≤ d) (hcu : cu ≤ mc) (hsu : su ≤ ms) (h : lpf (fun a : px_M => f_X6_scanNumber_12 a) M = some e) (g : WX RX6 cX6_scanNumber 1 none ("scanNumber", []) d mc ms X (px_QF Post mc ms) 98 [] [] sh e L R n cu su) : WX RX6 cX6_scanNumber 1 none ("scanNumber", []) d mc ms X (px_QF Post mc ms) 12 [(0, .ref 20)] [] sh M L R n cu su := by
  have key := lpf_wp (P := (fun a => WX RX6 cX6_scanNumber 1 none ("scanNumber", []) d mc ms X (px_QF Post mc ms) 12 [(0, .ref 20)] [] sh a L R n cu su)) (G := (fun t => WX RX6 cX6_scanNumber 1 none ("scanNumber", []) d mc ms X (px_QF Post mc ms) 98 [] [] sh t L R n cu su)) (fun a r h g => s_X6_scanNumber_12b (M := a) (L := L) (R := R) hS hd hcu hsu h g) (a := M) h g
  exact key
noncomputable def f_X6_scanNumber (M : px_M) : Option (px_M) :=
  nm (px_u M 20 5 317) fun M_4 =>
  nm (px_u M_4 20 6 0) fun M_9 =>
  bd1 (lpf (fun a : px_M => f_X6_scanNumber_12 a) M_9) fun e_12 =>
  some e_12
theorem s_X6_scanNumber {d : Nat} {X : Nat × (Nat → Int32)} {sh : px_Sh} {M : px_M} {L : px_L} {R : px_R} {n : Nat} {e : px_M} (hS : SR sh R) (hd : 0 ≤ d) (h : f_X6_scanNumber M = some e) : MX yX6_scanNumber cX6_scanNumber 1 none d 0 0 X [.ref 20] sh M L R n (px_pu none sh e L R n) := by
  refine MX.of (by decide +kernel) (by exact Nat.le_of_ble_eq_true rfl) ?_
  have hcu : 0 ≤ 0 := Nat.zero_le _
  have hsu : 0 ≤ 0 := Nat.zero_le _
  have g : px_pu none sh e L R n none sh e L R n := ⟨rfl, rfl, rfl, rfl, rfl, rfl⟩
  unfold f_X6_scanNumber at h
  refine wx_aload_n dX6_scanNumber_0 rfl ?_
  refine wx_sipush (v := 317) dX6_scanNumber_1 (by decide) ?_
  refine wx_putI dX6_scanNumber_4 fl_X6_57 (sc_20 hS) (Or.inl rfl) rfl ⟨rfl, rfl⟩ ?_
  refine wx_namM (fun M_4 q_4 => ?_)
  replace h := nm_at h q_4
  refine wx_aload_n dX6_scanNumber_7 rfl ?_
  refine wx_iconst (v := 0) dX6_scanNumber_8 (by decide) ?_
  refine wx_putI dX6_scanNumber_9 fl_X6_112 (sc_20 hS) (Or.inl rfl) rfl ⟨rfl, rfl⟩ ?_
  refine wx_namM (fun M_9 q_9 => ?_)
  replace h := nm_at h q_9
  obtain ⟨e_12, k_12, h⟩ := bd1_some h
  refine wx_sub (s_X6_scanNumber_12 hS hd hcu hsu k_12 ?_) (px_s rfl px_0)
  refine wx_vret dX6_scanNumber_98 hcu hsu ?_
  obtain rfl := Option.some.inj h
  exact g
noncomputable def f_X6_scan_8 (M : px_M) : Option ((px_M) ⊕ (px_M)) :=
  if (M 20 2) ≤ (M 20 3) then
    some (.inr M)
  else
    nm (M 20 3) fun v_27 =>
    ok (ix v_27 300) <|
    if (M 21 v_27.toNatClampNeg) = 32 then
      nm ((M 20 3) + 1) fun v_40 =>
      nm (px_u M 20 3 v_40) fun M_40 =>
      some (.inl M_40)
    else
      some (.inr M)
theorem s_X6_scan_8b {M : px_M} {L : px_L} {R : px_R} {e : ((px_M) ⊕ (px_M))} (hS : SR sh R) (hd : 5 ≤ d) (hcu : cu ≤ mc) (hsu : su ≤ ms) (h : f_X6_scan_8 M = some e) (g : (sE (fun a => WX RX6 cX6_scan 1 none ("scan", []) d mc ms X (px_QF Post mc ms) 8 [(0, .ref 20)] [] sh a L R n cu su) (fun t => WX RX6 cX6_scan 1 none ("scan", []) d mc ms X (px_QF Post mc ms) 46 [(0, .ref 20)] [] sh t L R n cu su)) e) : WX RX6 cX6_scan 1 none ("scan", []) d mc ms X (px_QF Post mc ms) 8 [(0, .ref 20)] [] sh M L R n cu su := by
  unfold f_X6_scan_8 at h
  refine wx_aload_n dX6_scan_8 rfl ?_
  refine wx_getI dX6_scan_9 fl_X6_63 (sc_20 hS) rfl ?_
  refine wx_aload_n dX6_scan_12 rfl ?_
  refine wx_getI dX6_scan_13 fl_X6_35 (sc_20 hS) rfl ?_
  refine wx_icmp_ge (tgt := 46) dX6_scan_16 (by decide) (fun c_16 => ?_) (fun c_16 => ?_)
  · replace h := it_t h c_16
    obtain rfl := Option.some.inj h
    replace g := sE_r g
    exact wx_sub g (px_s rfl px_0)
  · replace h := it_f h c_16
    refine wx_aload_n dX6_scan_19 rfl ?_
    refine wx_getR dX6_scan_20 fl_X6_11 (sc_20 hS) rfl (rr_20_0 hS) ?_
    refine wx_aload_n dX6_scan_23 rfl ?_
    refine wx_getI dX6_scan_24 fl_X6_63 (sc_20 hS) rfl ?_
    refine wx_nami (fun v_27 q_27 => ?_)
    replace h := nm_at h q_27
    obtain ⟨w_27, h⟩ := ok_some h
    refine wx_iald dX6_scan_27 (sc_21 hS) (ix_in w_27) ?_
    refine wx_bipush (v := 32) dX6_scan_28 (by decide) ?_
    refine wx_icmp_ne (tgt := 46) dX6_scan_30 (by decide) (fun c_30 => ?_) (fun c_30 => ?_)
    · replace h := it_f h c_30
      obtain rfl := Option.some.inj h
      replace g := sE_r g
      exact wx_sub g (px_s rfl px_0)
    · replace h := it_t h c_30
      refine wx_aload_n dX6_scan_33 rfl ?_
      refine wx_dup dX6_scan_34 rfl ?_
      refine wx_getI dX6_scan_35 fl_X6_63 (sc_20 hS) rfl ?_
      refine wx_iconst (v := 1) dX6_scan_38 (by decide) ?_
      refine wx_iadd dX6_scan_39 ?_
      refine wx_nami (fun v_40 q_40 => ?_)
      replace h := nm_at h q_40
      refine wx_putI dX6_scan_40 fl_X6_63 (sc_20 hS) (Or.inl rfl) rfl ⟨rfl, rfl⟩ ?_
      refine wx_namM (fun M_40 q_40 => ?_)
      replace h := nm_at h q_40
      refine wx_goto (tgt := 8) dX6_scan_43 (by decide) ?_
      obtain rfl := Option.some.inj h
      replace g := sE_l g
      exact wx_sub g (px_s rfl px_0)
theorem s_X6_scan_8 {M : px_M} {L : px_L} {R : px_R} {e : (px_M)} (hS : SR sh R) (hd : 5 ≤ d) (hcu : cu ≤ mc) (hsu : su ≤ ms) (h : lpf (fun a : px_M => f_X6_scan_8 a) M = some e) (g : WX RX6 cX6_scan 1 none ("scan", []) d mc ms X (px_QF Post mc ms) 46 [(0, .ref 20)] [] sh e L R n cu su) : WX RX6 cX6_scan 1 none ("scan", []) d mc ms X (px_QF Post mc ms) 8 [(0, .ref 20)] [] sh M L R n cu su := by
  have key := lpf_wp (P := (fun a => WX RX6 cX6_scan 1 none ("scan", []) d mc ms X (px_QF Post mc ms) 8 [(0, .ref 20)] [] sh a L R n cu su)) (G := (fun t => WX RX6 cX6_scan 1 none ("scan", []) d mc ms X (px_QF Post mc ms) 46 [(0, .ref 20)] [] sh t L R n cu su)) (fun a r h g => s_X6_scan_8b (M := a) (L := L) (R := R) hS hd hcu hsu h g) (a := M) h g
  exact key
noncomputable def f_X6_scan_168 (M : px_M) : Option (px_M) :=
  some M
theorem s_X6_scan_168 {M : px_M} {L : px_L} {R : px_R} {e : (px_M)} (hS : SR sh R) (hd : 5 ≤ d) (hcu : cu ≤ mc) (hsu : su ≤ ms) (h : f_X6_scan_168 M = some e) (g : Post none sh e L R n) : WX RX6 cX6_scan 1 none ("scan", []) d mc ms X (px_QF Post mc ms) 168 [] [] sh M L R n cu su := by
  unfold f_X6_scan_168 at h
  refine wx_vret dX6_scan_168 hcu hsu ?_
  obtain rfl := Option.some.inj h
  exact g
noncomputable def f_X6_scan_145 (M : px_M) : Option (px_M) :=
  nm (M 20 3) fun v_154 =>
  ok (ix v_154 300) <|
  nm (M 21 v_154.toNatClampNeg) fun v_155 =>
  nm (px_u M 20 5 v_155) fun M_155 =>
  nm ((M_155 20 3) + 1) fun v_165 =>
  nm (px_u M_155 20 4 v_165) fun M_165 =>
  f_X6_scan_168 M_165
theorem s_X6_scan_145 {M : px_M} {L : px_L} {R : px_R} {e : (px_M)} (hS : SR sh R) (hd : 5 ≤ d) (hcu : cu ≤ mc) (hsu : su ≤ ms) (h : f_X6_scan_145 M = some e) (g : Post none sh e L R n) : WX RX6 cX6_scan 1 none ("scan", []) d mc ms X (px_QF Post mc ms) 145 [(0, .ref 20)] [] sh M L R n cu su := by
  unfold f_X6_scan_145 at h
  refine wx_aload_n dX6_scan_145 rfl ?_
  refine wx_aload_n dX6_scan_146 rfl ?_
  refine wx_getR dX6_scan_147 fl_X6_11 (sc_20 hS) rfl (rr_20_0 hS) ?_
  refine wx_aload_n dX6_scan_150 rfl ?_
  refine wx_getI dX6_scan_151 fl_X6_63 (sc_20 hS) rfl ?_
  refine wx_nami (fun v_154 q_154 => ?_)
  replace h := nm_at h q_154
  obtain ⟨w_154, h⟩ := ok_some h
  refine wx_iald dX6_scan_154 (sc_21 hS) (ix_in w_154) ?_
  refine wx_nami (fun v_155 q_155 => ?_)
  replace h := nm_at h q_155
  refine wx_putI dX6_scan_155 fl_X6_57 (sc_20 hS) (Or.inl rfl) rfl ⟨rfl, rfl⟩ ?_
  refine wx_namM (fun M_155 q_155 => ?_)
  replace h := nm_at h q_155
  refine wx_aload_n dX6_scan_158 rfl ?_
  refine wx_aload_n dX6_scan_159 rfl ?_
  refine wx_getI dX6_scan_160 fl_X6_63 (sc_20 hS) rfl ?_
  refine wx_iconst (v := 1) dX6_scan_163 (by decide) ?_
  refine wx_iadd dX6_scan_164 ?_
  refine wx_nami (fun v_165 q_165 => ?_)
  replace h := nm_at h q_165
  refine wx_putI dX6_scan_165 fl_X6_41 (sc_20 hS) (Or.inl rfl) rfl ⟨rfl, rfl⟩ ?_
  refine wx_namM (fun M_165 q_165 => ?_)
  replace h := nm_at h q_165
  exact wx_sub (s_X6_scan_168 hS hd hcu hsu h g) px_0
noncomputable def f_X6_scan_110 (M : px_M) : Option (px_M) :=
  nm (M 20 3) fun v_118 =>
  ok (ix v_118 300) <|
  if (M 21 v_118.toNatClampNeg) < 48 then
    f_X6_scan_145 M
  else
    nm (M 20 3) fun v_132 =>
    ok (ix v_132 300) <|
    if 57 < (M 21 v_132.toNatClampNeg) then
      f_X6_scan_145 M
    else
      bd1 (f_X6_scanNumber M) fun e_139 =>
      f_X6_scan_168 e_139
theorem s_X6_scan_110 {M : px_M} {L : px_L} {R : px_R} {e : (px_M)} (hS : SR sh R) (hd : 5 ≤ d) (hcu : cu ≤ mc) (hsu : su ≤ ms) (h : f_X6_scan_110 M = some e) (g : Post none sh e L R n) : WX RX6 cX6_scan 1 none ("scan", []) d mc ms X (px_QF Post mc ms) 110 [(0, .ref 20)] [] sh M L R n cu su := by
  unfold f_X6_scan_110 at h
  refine wx_aload_n dX6_scan_110 rfl ?_
  refine wx_getR dX6_scan_111 fl_X6_11 (sc_20 hS) rfl (rr_20_0 hS) ?_
  refine wx_aload_n dX6_scan_114 rfl ?_
  refine wx_getI dX6_scan_115 fl_X6_63 (sc_20 hS) rfl ?_
  refine wx_nami (fun v_118 q_118 => ?_)
  replace h := nm_at h q_118
  obtain ⟨w_118, h⟩ := ok_some h
  refine wx_iald dX6_scan_118 (sc_21 hS) (ix_in w_118) ?_
  refine wx_bipush (v := 48) dX6_scan_119 (by decide) ?_
  refine wx_icmp_lt (tgt := 145) dX6_scan_121 (by decide) (fun c_121 => ?_) (fun c_121 => ?_)
  · replace h := it_t h c_121
    exact wx_sub (s_X6_scan_145 hS hd hcu hsu h g) (px_s rfl px_0)
  · replace h := it_f h c_121
    refine wx_aload_n dX6_scan_124 rfl ?_
    refine wx_getR dX6_scan_125 fl_X6_11 (sc_20 hS) rfl (rr_20_0 hS) ?_
    refine wx_aload_n dX6_scan_128 rfl ?_
    refine wx_getI dX6_scan_129 fl_X6_63 (sc_20 hS) rfl ?_
    refine wx_nami (fun v_132 q_132 => ?_)
    replace h := nm_at h q_132
    obtain ⟨w_132, h⟩ := ok_some h
    refine wx_iald dX6_scan_132 (sc_21 hS) (ix_in w_132) ?_
    refine wx_bipush (v := 57) dX6_scan_133 (by decide) ?_
    refine wx_icmp_gt (tgt := 145) dX6_scan_135 (by decide) (fun c_135 => ?_) (fun c_135 => ?_)
    · replace h := it_t h c_135
      exact wx_sub (s_X6_scan_145 hS hd hcu hsu h g) (px_s rfl px_0)
    · replace h := it_f h c_135
      refine wx_aload_n dX6_scan_138 rfl ?_
      obtain ⟨e_139, k_139, h⟩ := bd1_some h
      refine wx_cVv dX6_scan_139 ml_X6_118 my_X6_scanNumber iv_X6_scanNumber (sc_20 hS) (by decide) (s_X6_scanNumber (d := d - 1) hS (by omega) k_139) rfl (by omega) (by exact Nat.le_of_ble_eq_true rfl) hcu hsu ?_
      refine wx_goto (tgt := 168) dX6_scan_142 (by decide) ?_
      exact wx_sub (s_X6_scan_168 hS hd hcu hsu h g) px_0
noncomputable def f_X6_scan (M : px_M) : Option (px_M) :=
  nm (M 20 4) fun v_5 =>
  nm (px_u M 20 3 v_5) fun M_5 =>
  bd1 (lpf (fun a : px_M => f_X6_scan_8 a) M_5) fun e_8 =>
  nm (e_8 20 3) fun v_51 =>
  nm (px_u e_8 20 4 v_51) fun M_51 =>
  if (M_51 20 3) < (M_51 20 2) then
    nm (M_51 20 3) fun v_83 =>
    ok (ix v_83 300) <|
    if (M_51 21 v_83.toNatClampNeg) < 97 then
      f_X6_scan_110 M_51
    else
      nm (M_51 20 3) fun v_97 =>
      ok (ix v_97 300) <|
      if 122 < (M_51 21 v_97.toNatClampNeg) then
        f_X6_scan_110 M_51
      else
        bd1 (f_X6_scanWord M_51) fun e_104 =>
        f_X6_scan_168 e_104
  else
    nm (px_u M_51 20 5 318) fun M_69 =>
    f_X6_scan_168 M_69
theorem s_X6_scan {d : Nat} {X : Nat × (Nat → Int32)} {sh : px_Sh} {M : px_M} {L : px_L} {R : px_R} {n : Nat} {e : px_M} (hS : SR sh R) (hd : 5 ≤ d) (h : f_X6_scan M = some e) : MX yX6_scan cX6_scan 1 none d 0 0 X [.ref 20] sh M L R n (px_pu none sh e L R n) := by
  refine MX.of (by decide +kernel) (by exact Nat.le_of_ble_eq_true rfl) ?_
  have hcu : 0 ≤ 0 := Nat.zero_le _
  have hsu : 0 ≤ 0 := Nat.zero_le _
  have g : px_pu none sh e L R n none sh e L R n := ⟨rfl, rfl, rfl, rfl, rfl, rfl⟩
  unfold f_X6_scan at h
  refine wx_aload_n dX6_scan_0 rfl ?_
  refine wx_aload_n dX6_scan_1 rfl ?_
  refine wx_getI dX6_scan_2 fl_X6_41 (sc_20 hS) rfl ?_
  refine wx_nami (fun v_5 q_5 => ?_)
  replace h := nm_at h q_5
  refine wx_putI dX6_scan_5 fl_X6_63 (sc_20 hS) (Or.inl rfl) rfl ⟨rfl, rfl⟩ ?_
  refine wx_namM (fun M_5 q_5 => ?_)
  replace h := nm_at h q_5
  obtain ⟨e_8, k_8, h⟩ := bd1_some h
  refine wx_sub (s_X6_scan_8 hS hd hcu hsu k_8 ?_) (px_s rfl px_0)
  refine wx_aload_n dX6_scan_46 rfl ?_
  refine wx_aload_n dX6_scan_47 rfl ?_
  refine wx_getI dX6_scan_48 fl_X6_63 (sc_20 hS) rfl ?_
  refine wx_nami (fun v_51 q_51 => ?_)
  replace h := nm_at h q_51
  refine wx_putI dX6_scan_51 fl_X6_41 (sc_20 hS) (Or.inl rfl) rfl ⟨rfl, rfl⟩ ?_
  refine wx_namM (fun M_51 q_51 => ?_)
  replace h := nm_at h q_51
  refine wx_aload_n dX6_scan_54 rfl ?_
  refine wx_getI dX6_scan_55 fl_X6_63 (sc_20 hS) rfl ?_
  refine wx_aload_n dX6_scan_58 rfl ?_
  refine wx_getI dX6_scan_59 fl_X6_35 (sc_20 hS) rfl ?_
  refine wx_icmp_lt (tgt := 75) dX6_scan_62 (by decide) (fun c_62 => ?_) (fun c_62 => ?_)
  · replace h := it_t h c_62
    refine wx_aload_n dX6_scan_75 rfl ?_
    refine wx_getR dX6_scan_76 fl_X6_11 (sc_20 hS) rfl (rr_20_0 hS) ?_
    refine wx_aload_n dX6_scan_79 rfl ?_
    refine wx_getI dX6_scan_80 fl_X6_63 (sc_20 hS) rfl ?_
    refine wx_nami (fun v_83 q_83 => ?_)
    replace h := nm_at h q_83
    obtain ⟨w_83, h⟩ := ok_some h
    refine wx_iald dX6_scan_83 (sc_21 hS) (ix_in w_83) ?_
    refine wx_bipush (v := 97) dX6_scan_84 (by decide) ?_
    refine wx_icmp_lt (tgt := 110) dX6_scan_86 (by decide) (fun c_86 => ?_) (fun c_86 => ?_)
    · replace h := it_t h c_86
      exact wx_sub (s_X6_scan_110 hS hd hcu hsu h g) (px_s rfl px_0)
    · replace h := it_f h c_86
      refine wx_aload_n dX6_scan_89 rfl ?_
      refine wx_getR dX6_scan_90 fl_X6_11 (sc_20 hS) rfl (rr_20_0 hS) ?_
      refine wx_aload_n dX6_scan_93 rfl ?_
      refine wx_getI dX6_scan_94 fl_X6_63 (sc_20 hS) rfl ?_
      refine wx_nami (fun v_97 q_97 => ?_)
      replace h := nm_at h q_97
      obtain ⟨w_97, h⟩ := ok_some h
      refine wx_iald dX6_scan_97 (sc_21 hS) (ix_in w_97) ?_
      refine wx_bipush (v := 122) dX6_scan_98 (by decide) ?_
      refine wx_icmp_gt (tgt := 110) dX6_scan_100 (by decide) (fun c_100 => ?_) (fun c_100 => ?_)
      · replace h := it_t h c_100
        exact wx_sub (s_X6_scan_110 hS hd hcu hsu h g) (px_s rfl px_0)
      · replace h := it_f h c_100
        refine wx_aload_n dX6_scan_103 rfl ?_
        obtain ⟨e_104, k_104, h⟩ := bd1_some h
        refine wx_cVv dX6_scan_104 ml_X6_115 my_X6_scanWord iv_X6_scanWord (sc_20 hS) (by decide) (s_X6_scanWord (d := d - 1) hS (by omega) k_104) rfl (by omega) (by exact Nat.le_of_ble_eq_true rfl) hcu hsu ?_
        refine wx_goto (tgt := 168) dX6_scan_107 (by decide) ?_
        exact wx_sub (s_X6_scan_168 hS hd hcu hsu h g) px_0
  · replace h := it_f h c_62
    refine wx_aload_n dX6_scan_65 rfl ?_
    refine wx_sipush (v := 318) dX6_scan_66 (by decide) ?_
    refine wx_putI dX6_scan_69 fl_X6_57 (sc_20 hS) (Or.inl rfl) rfl ⟨rfl, rfl⟩ ?_
    refine wx_namM (fun M_69 q_69 => ?_)
    replace h := nm_at h q_69
    refine wx_goto (tgt := 168) dX6_scan_72 (by decide) ?_
    exact wx_sub (s_X6_scan_168 hS hd hcu hsu h g) px_0
noncomputable def f_X6_goesOn_12 (M : px_M) (z0 : Int32) : Option (Int32) :=
  ok (zb z0) <|
  some z0
theorem s_X6_goesOn_12 {z0 : Int32} {M : px_M} {L : px_L} {R : px_R} {e : (Int32)} (hS : SR sh R) (hd : 0 ≤ d) (hcu : cu ≤ mc) (hsu : su ≤ ms) (h : f_X6_goesOn_12 M z0 = some e) (g : Post (some (.int e)) sh M L R n) : WX RX6 cX6_goesOn 1 (some .boolean) ("goesOn", []) d mc ms X (px_QF Post mc ms) 12 [] [.int z0] sh M L R n cu su := by
  unfold f_X6_goesOn_12 at h
  obtain ⟨w_12, h⟩ := ok_some h
  refine wx_zret dX6_goesOn_12 (zb_n w_12) hcu hsu ?_
  obtain rfl := Option.some.inj h
  exact g
noncomputable def f_X6_goesOn (M : px_M) : Option (Int32) :=
  if (M 20 8) = 0 then
    f_X6_goesOn_12 M 1
  else
    f_X6_goesOn_12 M 0
theorem s_X6_goesOn {d : Nat} {X : Nat × (Nat → Int32)} {sh : px_Sh} {M : px_M} {L : px_L} {R : px_R} {n : Nat} {e : Int32} (hS : SR sh R) (hd : 0 ≤ d) (h : f_X6_goesOn M = some e) : MX yX6_goesOn cX6_goesOn 1 (some .boolean) d 0 0 X [.ref 20] sh M L R n (px_pu (some (.int e)) sh M L R n) := by
  refine MX.of (by decide +kernel) (by exact Nat.le_of_ble_eq_true rfl) ?_
  have hcu : 0 ≤ 0 := Nat.zero_le _
  have hsu : 0 ≤ 0 := Nat.zero_le _
  have g : px_pu (some (.int e)) sh M L R n (some (.int e)) sh M L R n := ⟨rfl, rfl, rfl, rfl, rfl, rfl⟩
  unfold f_X6_goesOn at h
  refine wx_aload_n dX6_goesOn_0 rfl ?_
  refine wx_getI dX6_goesOn_1 fl_X6_47 (sc_20 hS) rfl ?_
  refine wx_if_ne (tgt := 11) dX6_goesOn_4 (by decide) (fun c_4 => ?_) (fun c_4 => ?_)
  · replace h := it_f h c_4
    refine wx_iconst (v := 0) dX6_goesOn_11 (by decide) ?_
    exact wx_sub (s_X6_goesOn_12 hS hd hcu hsu h g) px_0
  · replace h := it_t h c_4
    refine wx_iconst (v := 1) dX6_goesOn_7 (by decide) ?_
    refine wx_goto (tgt := 12) dX6_goesOn_8 (by decide) ?_
    exact wx_sub (s_X6_goesOn_12 hS hd hcu hsu h g) px_0
noncomputable def f_X6_refuse_20 (M : px_M) : Option (px_M) :=
  some M
theorem s_X6_refuse_20 {M : px_M} {L : px_L} {R : px_R} {e : (px_M)} (hS : SR sh R) (hd : 1 ≤ d) (hcu : cu ≤ mc) (hsu : su ≤ ms) (h : f_X6_refuse_20 M = some e) (g : Post none sh e L R n) : WX RX6 cX6_refuse 2 none ("refuse", []) d mc ms X (px_QF Post mc ms) 20 [] [] sh M L R n cu su := by
  unfold f_X6_refuse_20 at h
  refine wx_vret dX6_refuse_20 hcu hsu ?_
  obtain rfl := Option.some.inj h
  exact g
noncomputable def f_X6_refuse (M : px_M) (p1 : Int32) : Option (px_M) :=
  bd1 (f_X6_goesOn M) fun e_1 =>
  if e_1 = 0 then
    f_X6_refuse_20 M
  else
    nm (px_u M 20 8 p1) fun M_9 =>
    nm (M_9 20 3) fun v_17 =>
    nm (px_u M_9 20 9 v_17) fun M_17 =>
    f_X6_refuse_20 M_17
theorem s_X6_refuse {d : Nat} {X : Nat × (Nat → Int32)} {sh : px_Sh} {M : px_M} {L : px_L} {R : px_R} {n : Nat} {p1 : Int32} {e : px_M} (hS : SR sh R) (hd : 1 ≤ d) (h : f_X6_refuse M p1 = some e) : MX yX6_refuse cX6_refuse 2 none d 0 0 X [.ref 20, .int p1] sh M L R n (px_pu none sh e L R n) := by
  refine MX.of (by decide +kernel) (by exact Nat.le_of_ble_eq_true rfl) ?_
  have hcu : 0 ≤ 0 := Nat.zero_le _
  have hsu : 0 ≤ 0 := Nat.zero_le _
  have g : px_pu none sh e L R n none sh e L R n := ⟨rfl, rfl, rfl, rfl, rfl, rfl⟩
  unfold f_X6_refuse at h
  refine wx_aload_n dX6_refuse_0 rfl ?_
  obtain ⟨e_1, k_1, h⟩ := bd1_some h
  refine wx_cVi dX6_refuse_1 ml_X6_53 my_X6_goesOn iv_X6_goesOn (sc_20 hS) (by decide) (s_X6_goesOn (d := d - 1) hS (by omega) k_1) rfl (by omega) (by exact Nat.le_of_ble_eq_true rfl) hcu hsu ?_
  refine wx_if_eq (tgt := 20) dX6_refuse_4 (by decide) (fun c_4 => ?_) (fun c_4 => ?_)
  · replace h := it_t h c_4
    exact wx_sub (s_X6_refuse_20 hS hd hcu hsu h g) px_0
  · replace h := it_f h c_4
    refine wx_aload_n dX6_refuse_7 rfl ?_
    refine wx_iload_n dX6_refuse_8 rfl ?_
    refine wx_putI dX6_refuse_9 fl_X6_47 (sc_20 hS) (Or.inl rfl) rfl ⟨rfl, rfl⟩ ?_
    refine wx_namM (fun M_9 q_9 => ?_)
    replace h := nm_at h q_9
    refine wx_aload_n dX6_refuse_12 rfl ?_
    refine wx_aload_n dX6_refuse_13 rfl ?_
    refine wx_getI dX6_refuse_14 fl_X6_63 (sc_20 hS) rfl ?_
    refine wx_nami (fun v_17 q_17 => ?_)
    replace h := nm_at h q_17
    refine wx_putI dX6_refuse_17 fl_X6_15 (sc_20 hS) (Or.inl rfl) rfl ⟨rfl, rfl⟩ ?_
    refine wx_namM (fun M_17 q_17 => ?_)
    replace h := nm_at h q_17
    exact wx_sub (s_X6_refuse_20 hS hd hcu hsu h g) px_0
noncomputable def f_X6_demand_27 (M : px_M) : Option (px_M) :=
  some M
theorem s_X6_demand_27 {M : px_M} {L : px_L} {R : px_R} {e : (px_M)} (hS : SR sh R) (hd : 6 ≤ d) (hcu : cu ≤ mc) (hsu : su ≤ ms) (h : f_X6_demand_27 M = some e) (g : Post none sh e L R n) : WX RX6 cX6_demand 2 none ("demand", []) d mc ms X (px_QF Post mc ms) 27 [] [] sh M L R n cu su := by
  unfold f_X6_demand_27 at h
  refine wx_vret dX6_demand_27 hcu hsu ?_
  obtain rfl := Option.some.inj h
  exact g
noncomputable def f_X6_demand (M : px_M) (p1 : Int32) : Option (px_M) :=
  if (M 20 5) = p1 then
    bd1 (f_X6_goesOn M) fun e_17 =>
    if e_17 = 0 then
      f_X6_demand_27 M
    else
      bd1 (f_X6_scan M) fun e_24 =>
      f_X6_demand_27 e_24
  else
    bd1 (f_X6_refuse M 1) fun e_10 =>
    f_X6_demand_27 e_10
theorem s_X6_demand {d : Nat} {X : Nat × (Nat → Int32)} {sh : px_Sh} {M : px_M} {L : px_L} {R : px_R} {n : Nat} {p1 : Int32} {e : px_M} (hS : SR sh R) (hd : 6 ≤ d) (h : f_X6_demand M p1 = some e) : MX yX6_demand cX6_demand 2 none d 0 0 X [.ref 20, .int p1] sh M L R n (px_pu none sh e L R n) := by
  refine MX.of (by decide +kernel) (by exact Nat.le_of_ble_eq_true rfl) ?_
  have hcu : 0 ≤ 0 := Nat.zero_le _
  have hsu : 0 ≤ 0 := Nat.zero_le _
  have g : px_pu none sh e L R n none sh e L R n := ⟨rfl, rfl, rfl, rfl, rfl, rfl⟩
  unfold f_X6_demand at h
  refine wx_aload_n dX6_demand_0 rfl ?_
  refine wx_getI dX6_demand_1 fl_X6_57 (sc_20 hS) rfl ?_
  refine wx_iload_n dX6_demand_4 rfl ?_
  refine wx_icmp_eq (tgt := 16) dX6_demand_5 (by decide) (fun c_5 => ?_) (fun c_5 => ?_)
  · replace h := it_t h c_5
    refine wx_aload_n dX6_demand_16 rfl ?_
    obtain ⟨e_17, k_17, h⟩ := bd1_some h
    refine wx_cVi dX6_demand_17 ml_X6_53 my_X6_goesOn iv_X6_goesOn (sc_20 hS) (by decide) (s_X6_goesOn (d := d - 1) hS (by omega) k_17) rfl (by omega) (by exact Nat.le_of_ble_eq_true rfl) hcu hsu ?_
    refine wx_if_eq (tgt := 27) dX6_demand_20 (by decide) (fun c_20 => ?_) (fun c_20 => ?_)
    · replace h := it_t h c_20
      exact wx_sub (s_X6_demand_27 hS hd hcu hsu h g) px_0
    · replace h := it_f h c_20
      refine wx_aload_n dX6_demand_23 rfl ?_
      obtain ⟨e_24, k_24, h⟩ := bd1_some h
      refine wx_cVv dX6_demand_24 ml_X6_50 my_X6_scan iv_X6_scan (sc_20 hS) (by decide) (s_X6_scan (d := d - 1) hS (by omega) k_24) rfl (by omega) (by exact Nat.le_of_ble_eq_true rfl) hcu hsu ?_
      exact wx_sub (s_X6_demand_27 hS hd hcu hsu h g) px_0
  · replace h := it_f h c_5
    refine wx_aload_n dX6_demand_8 rfl ?_
    refine wx_iconst (v := 1) dX6_demand_9 (by decide) ?_
    obtain ⟨e_10, k_10, h⟩ := bd1_some h
    refine wx_cVv dX6_demand_10 ml_X6_66 my_X6_refuse iv_X6_refuse (sc_20 hS) (by decide) (s_X6_refuse (d := d - 1) hS (by omega) k_10) rfl (by omega) (by exact Nat.le_of_ble_eq_true rfl) hcu hsu ?_
    refine wx_goto (tgt := 27) dX6_demand_13 (by decide) ?_
    exact wx_sub (s_X6_demand_27 hS hd hcu hsu h g) px_0
noncomputable def f_X6_enter_31 (M : px_M) : Option (px_M) :=
  some M
theorem s_X6_enter_31 {M : px_M} {L : px_L} {R : px_R} {e : (px_M)} (hS : SR sh R) (hd : 6 ≤ d) (hcu : cu ≤ mc) (hsu : su ≤ ms) (h : f_X6_enter_31 M = some e) (g : Post none sh e L R n) : WX RX6 cX6_enter 1 none ("enter", []) d mc ms X (px_QF Post mc ms) 31 [] [] sh M L R n cu su := by
  unfold f_X6_enter_31 at h
  refine wx_vret dX6_enter_31 hcu hsu ?_
  obtain rfl := Option.some.inj h
  exact g
noncomputable def f_X6_enter (M : px_M) : Option (px_M) :=
  if (M 20 7) < 6 then
    nm ((M 20 7) + 1) fun v_24 =>
    nm (px_u M 20 7 v_24) fun M_24 =>
    bd1 (f_X6_scan M_24) fun e_28 =>
    f_X6_enter_31 e_28
  else
    bd1 (f_X6_refuse M 3) fun e_11 =>
    f_X6_enter_31 e_11
theorem s_X6_enter {d : Nat} {X : Nat × (Nat → Int32)} {sh : px_Sh} {M : px_M} {L : px_L} {R : px_R} {n : Nat} {e : px_M} (hS : SR sh R) (hd : 6 ≤ d) (h : f_X6_enter M = some e) : MX yX6_enter cX6_enter 1 none d 0 0 X [.ref 20] sh M L R n (px_pu none sh e L R n) := by
  refine MX.of (by decide +kernel) (by exact Nat.le_of_ble_eq_true rfl) ?_
  have hcu : 0 ≤ 0 := Nat.zero_le _
  have hsu : 0 ≤ 0 := Nat.zero_le _
  have g : px_pu none sh e L R n none sh e L R n := ⟨rfl, rfl, rfl, rfl, rfl, rfl⟩
  unfold f_X6_enter at h
  refine wx_aload_n dX6_enter_0 rfl ?_
  refine wx_getI dX6_enter_1 fl_X6_44 (sc_20 hS) rfl ?_
  refine wx_bipush (v := 6) dX6_enter_4 (by decide) ?_
  refine wx_icmp_lt (tgt := 17) dX6_enter_6 (by decide) (fun c_6 => ?_) (fun c_6 => ?_)
  · replace h := it_t h c_6
    refine wx_aload_n dX6_enter_17 rfl ?_
    refine wx_dup dX6_enter_18 rfl ?_
    refine wx_getI dX6_enter_19 fl_X6_44 (sc_20 hS) rfl ?_
    refine wx_iconst (v := 1) dX6_enter_22 (by decide) ?_
    refine wx_iadd dX6_enter_23 ?_
    refine wx_nami (fun v_24 q_24 => ?_)
    replace h := nm_at h q_24
    refine wx_putI dX6_enter_24 fl_X6_44 (sc_20 hS) (Or.inl rfl) rfl ⟨rfl, rfl⟩ ?_
    refine wx_namM (fun M_24 q_24 => ?_)
    replace h := nm_at h q_24
    refine wx_aload_n dX6_enter_27 rfl ?_
    obtain ⟨e_28, k_28, h⟩ := bd1_some h
    refine wx_cVv dX6_enter_28 ml_X6_50 my_X6_scan iv_X6_scan (sc_20 hS) (by decide) (s_X6_scan (d := d - 1) hS (by omega) k_28) rfl (by omega) (by exact Nat.le_of_ble_eq_true rfl) hcu hsu ?_
    exact wx_sub (s_X6_enter_31 hS hd hcu hsu h g) px_0
  · replace h := it_f h c_6
    refine wx_aload_n dX6_enter_9 rfl ?_
    refine wx_iconst (v := 3) dX6_enter_10 (by decide) ?_
    obtain ⟨e_11, k_11, h⟩ := bd1_some h
    refine wx_cVv dX6_enter_11 ml_X6_66 my_X6_refuse iv_X6_refuse (sc_20 hS) (by decide) (s_X6_refuse (d := d - 1) hS (by omega) k_11) rfl (by omega) (by exact Nat.le_of_ble_eq_true rfl) hcu hsu ?_
    refine wx_goto (tgt := 31) dX6_enter_14 (by decide) ?_
    exact wx_sub (s_X6_enter_31 hS hd hcu hsu h g) px_0
noncomputable def f_X6_readNumber_33 (sh : px_Sh) (M : px_M) (R : px_R) : Option (px_M) :=
  some M
theorem s_X6_readNumber_33 {M : px_M} {L : px_L} {R : px_R} {e : (px_M)} (hS : SR sh R) (hd : 6 ≤ d) (hcu : cu ≤ mc) (hsu : su ≤ ms) (h : f_X6_readNumber_33 sh M R = some e) (g : Post none sh e L R n) : WX RX6 cX6_readNumber 1 none ("readNumber", []) d mc ms X (px_QF Post mc ms) 33 [] [] sh M L R n cu su := by
  unfold f_X6_readNumber_33 at h
  refine wx_vret dX6_readNumber_33 hcu hsu ?_
  obtain rfl := Option.some.inj h
  exact g
noncomputable def f_X6_readNumber (sh : px_Sh) (M : px_M) (R : px_R) : Option (px_M) :=
  if (M 20 6) ≤ 9999 then
    bd1 (R 20 10) fun b_19 =>
    ok (hk sh b_19 7) <|
    bd1 (f_X7_add sh M R b_19 (M 20 6)) fun e_26 =>
    bd1 (f_X6_scan e_26) fun e_30 =>
    f_X6_readNumber_33 sh e_30 R
  else
    bd1 (f_X6_refuse M 2) fun e_12 =>
    f_X6_readNumber_33 sh e_12 R
theorem s_X6_readNumber {d : Nat} {X : Nat × (Nat → Int32)} {sh : px_Sh} {M : px_M} {L : px_L} {R : px_R} {n : Nat} {e : px_M} (hS : SR sh R) (hd : 6 ≤ d) (h : f_X6_readNumber sh M R = some e) : MX yX6_readNumber cX6_readNumber 1 none d 0 0 X [.ref 20] sh M L R n (px_pu none sh e L R n) := by
  refine MX.of (by decide +kernel) (by exact Nat.le_of_ble_eq_true rfl) ?_
  have hcu : 0 ≤ 0 := Nat.zero_le _
  have hsu : 0 ≤ 0 := Nat.zero_le _
  have g : px_pu none sh e L R n none sh e L R n := ⟨rfl, rfl, rfl, rfl, rfl, rfl⟩
  unfold f_X6_readNumber at h
  refine wx_aload_n dX6_readNumber_0 rfl ?_
  refine wx_getI dX6_readNumber_1 fl_X6_112 (sc_20 hS) rfl ?_
  refine wx_sipush (v := 9999) dX6_readNumber_4 (by decide) ?_
  refine wx_icmp_le (tgt := 18) dX6_readNumber_7 (by decide) (fun c_7 => ?_) (fun c_7 => ?_)
  · replace h := it_t h c_7
    refine wx_aload_n dX6_readNumber_18 rfl ?_
    obtain ⟨b_19, w_19, h⟩ := bd1_some h
    refine wx_getR dX6_readNumber_19 fl_X6_22 (sc_20 hS) rfl w_19 ?_
    refine wx_aload_n dX6_readNumber_22 rfl ?_
    refine wx_getI dX6_readNumber_23 fl_X6_112 (sc_20 hS) rfl ?_
    obtain ⟨ws_26, h⟩ := ok_some h
    obtain ⟨ln_26, wt_26⟩ := hk_some ws_26
    obtain ⟨e_26, k_26, h⟩ := bd1_some h
    refine wx_cVv dX6_readNumber_26 ml_X6_85 my_X7_add iv_X7_add wt_26 (by decide) (s_X7_add (d := d - 1) hS (by omega) k_26) rfl (by omega) (by exact Nat.le_of_ble_eq_true rfl) hcu hsu ?_
    refine wx_aload_n dX6_readNumber_29 rfl ?_
    obtain ⟨e_30, k_30, h⟩ := bd1_some h
    refine wx_cVv dX6_readNumber_30 ml_X6_50 my_X6_scan iv_X6_scan (sc_20 hS) (by decide) (s_X6_scan (d := d - 1) hS (by omega) k_30) rfl (by omega) (by exact Nat.le_of_ble_eq_true rfl) hcu hsu ?_
    exact wx_sub (s_X6_readNumber_33 hS hd hcu hsu h g) px_0
  · replace h := it_f h c_7
    refine wx_aload_n dX6_readNumber_10 rfl ?_
    refine wx_iconst (v := 2) dX6_readNumber_11 (by decide) ?_
    obtain ⟨e_12, k_12, h⟩ := bd1_some h
    refine wx_cVv dX6_readNumber_12 ml_X6_66 my_X6_refuse iv_X6_refuse (sc_20 hS) (by decide) (s_X6_refuse (d := d - 1) hS (by omega) k_12) rfl (by omega) (by exact Nat.le_of_ble_eq_true rfl) hcu hsu ?_
    refine wx_goto (tgt := 33) dX6_readNumber_15 (by decide) ?_
    exact wx_sub (s_X6_readNumber_33 hS hd hcu hsu h g) px_0
end LIFT
