/-! the one String constant that is read, and its charAt -/
section PXS
variable {own : String} {cc : ByteArray} {mL : Nat} {rt : Option FieldType} {nm : String × List (Nat × Nat × Nat × Nat)} {d mc ms : Nat} {X : Nat × (Nat → Int32)} {QF : px_F} {Post : px_Post} {pc : Nat} {lv lv' : List (Nat × Value)} {st : List Value} {sh : px_Sh} {M M' : px_M} {L L' : px_L} {R R' : px_R} {n cu su : Nat}
theorem wx_ldcW (hd : decode cc pc = .ok (.ldc 121, 2)) (h : WX RX6 cc mL rt nm d mc ms X QF (pc + 2) lv (.retAddr 6 :: st) sh M L R n cu su) : WX RX6 cc mL rt nm d mc ms X QF pc lv st sh M L R n cu su := by
  intro p l e Rm s m args below meth c B D cy sx H locs ls hC hW hn hS hl
  have h2 := h p l e Rm s m args below meth c B D cy sx H locs ls hC hW hn hS hl
  obtain ⟨hx, hb, -, -, hown, hts, -, hK, hE, -⟩ := hC
  exact va_ldcS hx hb hown hE.2.2.2.1.2.2.2.2 hd h2
theorem ws_38 : Cond.fieldLink RJ0 38 "java/lang/String" "COMPACT_STRINGS" "Z" ∈ px_G := px_mem 1233 (by decide +kernel) rfl
theorem ws_1053 : Cond.fieldLink RJ0 1053 "jdk/internal/util/Preconditions" "SIOOBE_FORMATTER" "Ljava/util/function/BiFunction;" ∈ px_G := px_mem 1241 (by decide +kernel) rfl
theorem ws_15 : Cond.fieldLink RJ0 15 "java/lang/String" "coder" "B" ∈ px_G := px_mem 2325 (by decide +kernel) rfl
theorem ws_9 : Cond.fieldLink RJ0 9 "java/lang/String" "value" "[B" ∈ px_G := px_mem 2326 (by decide +kernel) rfl
theorem ws_ivL : Cond.instanceMethod yJ0_isLatin1_aae02 ∈ px_G ∧ Cond.selects "java/lang/String" yJ0_isLatin1_aae02 yJ0_isLatin1_aae02 ∈ px_G := ⟨px_mem 1230 (by decide +kernel) rfl, px_mem 1231 (by decide +kernel) rfl⟩
theorem ws_ivC : Cond.instanceMethod yJ0_charAt_5068e ∈ px_G ∧ Cond.selects "java/lang/String" yJ0_charAt_5068e yJ0_charAt_5068e ∈ px_G := ⟨px_mem 1226 (by decide +kernel) rfl, px_mem 1227 (by decide +kernel) rfl⟩
theorem wx_compact (hd : decode cc pc = .ok (.getstatic 38, 3)) (h : WX RJ0 cc mL rt nm d mc ms X QF (pc + 3) lv (.int 1 :: st) sh M L R n cu su) : WX RJ0 cc mL rt nm d mc ms X QF pc lv st sh M L R n cu su := by
  intro p l e Rm s m args below meth c B D cy sx H locs ls hC hW hn hS hl
  have h2 := h p l e Rm s m args below meth c B D cy sx H locs ls hC hW hn hS hl
  obtain ⟨hx, hb, -, -, hown, hts, -, hK, hE, -⟩ := hC
  exact va_gets hx hb hE.2.2.2.2.2.1.2.1 hS hown (hts _ ws_38) (fun _ q => q) hd h2
theorem wx_siobe (hd : decode cc pc = .ok (.getstatic 1053, 3)) (h1 : WX RJ0 cc mL rt nm d mc ms X QF (pc + 3) lv (.null :: st) sh M L R n cu su) (h2 : WX RJ0 cc mL rt nm d mc ms X QF (pc + 3) lv (.retAddr 8 :: st) sh M L R n cu su) : WX RJ0 cc mL rt nm d mc ms X QF pc lv st sh M L R n cu su := by
  intro p l e Rm s m args below meth c B D cy sx H locs ls hC hW hn hS hl
  have g1 := h1 p l e Rm s m args below meth c B D cy sx H locs ls hC hW hn hS hl
  have g2 := h2 p l e Rm s m args below meth c B D cy sx H locs ls hC hW hn hS hl
  obtain ⟨hx, hb, -, -, hown, hts, -, hK, hE, -⟩ := hC
  rcases hE.2.2.2.2.2.2 with q | q
  · exact va_gets hx hb q hS hown (hts _ ws_1053) (fun _ q => q) hd g1
  · exact va_gets hx hb q hS hown (hts _ ws_1053) (fun _ q => q) hd g2
theorem wx_coder (hd : decode cc pc = .ok (.getfield 15, 3)) (h : WX RJ0 cc mL rt nm d mc ms X QF (pc + 3) lv (.int 0 :: st) sh M L R n cu su) : WX RJ0 cc mL rt nm d mc ms X QF pc lv (.retAddr 6 :: st) sh M L R n cu su := by
  intro p l e Rm s m args below meth c B D cy sx H locs ls hC hW hn hS hl
  have h2 := h p l e Rm s m args below meth c B D cy sx H locs ls hC hW hn hS hl
  obtain ⟨hx, hb, -, -, hown, hts, -, hK, hE, -⟩ := hC
  exact vk_getf hx hb (hE.2.2.2.2.2.1.1.1 0 (by decide)).2.1 hS hown (hts _ ws_15) (fun _ q => q) hd h2
theorem wx_strval (hd : decode cc pc = .ok (.getfield 9, 3)) (h : WX RJ0 cc mL rt nm d mc ms X QF (pc + 3) lv (.retAddr 7 :: st) sh M L R n cu su) : WX RJ0 cc mL rt nm d mc ms X QF pc lv (.retAddr 6 :: st) sh M L R n cu su := by
  intro p l e Rm s m args below meth c B D cy sx H locs ls hC hW hn hS hl
  have h2 := h p l e Rm s m args below meth c B D cy sx H locs ls hC hW hn hS hl
  obtain ⟨hx, hb, -, -, hown, hts, -, hK, hE, -⟩ := hC
  exact vk_getf hx hb (hE.2.2.2.2.2.1.1.1 0 (by decide)).2.2.1 hS hown (hts _ ws_9) (fun _ q => q) hd h2
theorem wx_blen (hd : decode cc pc = .ok (.arraylength, 1)) (h : WX own cc mL rt nm d mc ms X QF (pc + 1) lv (.int 80 :: st) sh M L R n cu su) : WX own cc mL rt nm d mc ms X QF pc lv (.retAddr 7 :: st) sh M L R n cu su := by
  intro p l e Rm s m args below meth c B D cy sx H locs ls hC hW hn hS hl
  have h2 := h p l e Rm s m args below meth c B D cy sx H locs ls hC hW hn hS hl
  obtain ⟨hx, hb, -, -, hown, hts, -, hK, hE, -⟩ := hC
  exact va_tlen hx hb (hE.2.2.2.2.2.1.1.1 0 (by decide)).2.2.2 hS (v := 80) rfl hd h2
theorem wx_bytes {i : Int32} (hd : decode cc pc = .ok (.baload, 1)) (hi : vp_in i 80) (h : WX own cc mL rt nm d mc ms X QF (pc + 1) lv (.int (px_bytes.getD i.toNatClampNeg 0) :: st) sh M L R n cu su) : WX own cc mL rt nm d mc ms X QF pc lv (.int i :: .retAddr 7 :: st) sh M L R n cu su := by
  intro p l e Rm s m args below meth c B D cy sx H locs ls hC hW hn hS hl
  have h2 := h p l e Rm s m args below meth c B D cy sx H locs ls hC hW hn hS hl
  obtain ⟨hx, hb, -, -, hown, hts, -, hK, hE, -⟩ := hC
  exact va_tb hx hb (hE.2.2.2.2.2.1.1.1 0 (by decide)).2.2.2 hS hi (v := .int (px_bytes.getD i.toNatClampNeg 0)) rfl hd h2
theorem wx_cret {x : Int32} (hd : decode cc pc = .ok (.ireturn, 1)) (hn0 : narrow .char (.int x) = .int x) (hc : cu ≤ mc) (hs : su ≤ ms) (hp : Post (some (.int x)) sh M L R n) : WX own cc mL (some .char) nm d mc ms X (px_QF Post mc ms) pc lv [.int x] sh M L R n cu su := by
  intro p l e Rm s m args below meth c B D cy sx H locs ls hC hW hn hS hl
  obtain ⟨hx, hb, -, hr, -, -, hlocks, -⟩ := hC
  refine W.widen hc hs ?_
  exact W.zret hx hb hr hn0 (fun t ht hWm => ⟨⟨some (.int x), sh, M, L, R, n, rfl, hp, by rw [ht]; exact hW, by rw [ht]; exact hn⟩, hS.F ht⟩) hS.2.2 hd hlocks
/-- a call on the String -/
theorem wx_callVE {idx : Nat} {y : MethodName} {c2 : ByteArray} {mL2 d2 : Nat} {rt2 : Option FieldType} {av st0 : List Value} {r : Int32} (hd : decode cc pc = .ok (.invokevirtual idx, 3)) (hl : px_ml own idx y) (hy : px_my y c2 mL2 rt2 av.length) (hst : Cond.instanceMethod y ∈ px_G ∧ Cond.selects "java/lang/String" y y ∈ px_G)
    (hM : MX y c2 mL2 rt2 d2 0 0 X (.retAddr 6 :: av) sh M L R n (px_pu (some (.int r)) sh M L R n)) (h0 : st0 = av.reverse ++ .retAddr 6 :: st) (hdd : d2 + 1 ≤ d) (hcat : (st.map fun v => v.category).sum ≤ 8) (hmc : cu ≤ mc) (hms : su ≤ ms)
    (h : WX own cc mL rt nm d mc ms X QF (pc + 3) lv (.int r :: st) sh M L R n cu su) : WX own cc mL rt nm d mc ms X QF pc lv st0 sh M L R n cu su := by
  intro p l e Rm s m args below meth c B D cy sx H locs ls hC hW hn hS hll
  subst h0
  have hst2 := px_start hC hW hn hS (.retAddr 6 :: av)
  have h2 := fun H1 locs1 => h p l e Rm s m args below meth c B D cy sx H1 locs1 ls hC
  obtain ⟨hx, hb, hml, -, hown, hts, -, hK, hE, -, hlt, -, hfr, hlo, hce, hsl⟩ := hC
  have hcat2 : ((st.map (px_v B sx)).map fun v => v.category).sum ≤ 8 := by
    rw [List.map_map]
    have e9 : (fun v => Value.category v) ∘ px_v B sx = fun v => v.category := funext fun v => px_v_cat B sx v
    rw [e9]
    exact hcat
  have hstk : (F0 m pc ls ((av.reverse ++ .retAddr 6 :: st).map (px_v B sx))).stack = (av.map (px_v B sx)).reverse ++ .ref (sx 6) :: st.map (px_v B sx) := by
    show (av.reverse ++ .retAddr 6 :: st).map (px_v B sx) = _
    rw [List.map_append, List.map_reverse]
    rfl
  have hrc := vk_recv hE.2.2.2.2.2.1.1 (by decide : 0 < 1) hS
  have hrun : va_Run p l e Rm s m args below meth c H locs cu su 0 0 (F0 m pc ls ((av.reverse ++ .retAddr 6 :: st).map (px_v B sx))) (st.map (px_v B sx)) (px_Q (px_pu (some (.int r)) sh M L R n) B D cy sx (Value.ref (sx 6) :: av.map (px_v B sx)).toArray) (px_A B) := by
    rcases hl with hl | ⟨host, hl⟩
    · exact va_runV ⟨hx, hb, hml, hown, hts⟩ (hM l hlt B D cy sx) ⟨px_callB hts hfr hlo hy hl hdd, hts _ hst.1, hts _ hst.2⟩ ⟨px_P.blind, hrc, hst2⟩ rfl (by rw [List.length_map]) hll.1 hstk (lv_room hcat2) hd ⟨by omega, by omega⟩
    · exact va_runVN ⟨hx, hb, hml, hown, hts⟩ (hM l hlt B D cy sx) ⟨px_callN hts hfr hlo hy (hE.1.1 _ hl) hdd, hts _ hst.1, hts _ hst.2⟩ ⟨px_P.blind, hrc, hst2⟩ rfl (by rw [List.length_map]) hll.1 hstk (lv_room hcat2) hd ⟨by omega, by omega⟩
  refine px_call hrun hS (fun v sh' M' L' R' n' H1 locs1 hp hw hz hs1 => ?_)
  obtain ⟨rfl, rfl, rfl, rfl, rfl, rfl⟩ := hp
  exact h2 H1 locs1 hw hz hs1 hll
end PXS
theorem m_isLatin1 {d : Nat} {X : Nat × (Nat → Int32)} {sh : px_Sh} {M : px_M} {L : px_L} {R : px_R} {n : Nat} : MX yJ0_isLatin1_aae02 cJ0_isLatin1_aae02 1 (some .boolean) d 0 0 X [.retAddr 6] sh M L R n (px_pu (some (.int 1)) sh M L R n) := by
  refine MX.of (by decide +kernel) (by exact Nat.le_of_ble_eq_true rfl) ?_
  refine wx_compact dJ0_isLatin1_aae02_0 ?_
  refine wx_if_eq (tgt := 17) dJ0_isLatin1_aae02_3 (by decide) (fun c => absurd c (by decide)) (fun _ => ?_)
  refine wx_xload_n dJ0_isLatin1_aae02_6 rfl ?_
  refine wx_coder dJ0_isLatin1_aae02_7 ?_
  refine wx_if_ne (tgt := 17) dJ0_isLatin1_aae02_10 (by decide) (fun c => absurd rfl c) (fun _ => ?_)
  refine wx_iconst (v := 1) dJ0_isLatin1_aae02_13 (by decide) ?_
  refine wx_goto (tgt := 18) dJ0_isLatin1_aae02_14 (by decide) ?_
  refine wx_zret dJ0_isLatin1_aae02_18 rfl (Nat.zero_le _) (Nat.zero_le _) ?_
  exact ⟨rfl, rfl, rfl, rfl, rfl, rfl⟩
theorem m_check3 {d : Nat} {X : Nat × (Nat → Int32)} {sh : px_Sh} {M : px_M} {L : px_L} {R : px_R} {n : Nat} {i N : Int32} {v : Value} (hv : v = .null ∨ v = .retAddr 8) (h1 : ¬ i < 0) (h2 : i < N) : MX yJ3_checkIndex_8e157 cJ3_checkIndex_8e157 3 (some .int) d 0 0 X [.int i, .int N, v] sh M L R n (px_pu (some (.int i)) sh M L R n) := by
  refine MX.of (by decide +kernel) (by rcases hv with rfl | rfl <;> exact Nat.le_of_ble_eq_true rfl) ?_
  refine wx_iload_n dJ3_checkIndex_8e157_0 rfl ?_
  refine wx_if_lt (tgt := 9) dJ3_checkIndex_8e157_1 (by decide) (fun c => absurd c h1) (fun _ => ?_)
  refine wx_iload_n dJ3_checkIndex_8e157_4 rfl ?_
  refine wx_iload_n dJ3_checkIndex_8e157_5 rfl ?_
  refine wx_icmp_lt (tgt := 16) dJ3_checkIndex_8e157_6 (by decide) (fun _ => ?_) (fun c => absurd h2 c)
  refine wx_iload_n dJ3_checkIndex_8e157_16 rfl ?_
  refine wx_iret dJ3_checkIndex_8e157_17 (Nat.zero_le _) (Nat.zero_le _) ?_
  exact ⟨rfl, rfl, rfl, rfl, rfl, rfl⟩
theorem m_check0 {d : Nat} {X : Nat × (Nat → Int32)} {sh : px_Sh} {M : px_M} {L : px_L} {R : px_R} {n : Nat} {i N : Int32} (hd : 1 ≤ d) (h1 : ¬ i < 0) (h2 : i < N) : MX yJ0_checkIndex_df160 cJ0_checkIndex_df160 2 none d 0 0 X [.int i, .int N] sh M L R n (px_pu none sh M L R n) := by
  refine MX.of (by decide +kernel) (by exact Nat.le_of_ble_eq_true rfl) ?_
  refine wx_iload_n dJ0_checkIndex_df160_0 rfl ?_
  refine wx_iload_n dJ0_checkIndex_df160_1 rfl ?_
  refine wx_siobe dJ0_checkIndex_df160_2 ?_ ?_
  · refine wx_callSpi (av := [.int i, .int N, .null]) dJ0_checkIndex_df160_5 ml_J0_1059 my_J3_checkIndex_8e157 sv_J3_checkIndex_8e157 (m_check3 (d := d - 1) (Or.inl rfl) h1 h2) rfl (by omega) (by exact Nat.le_of_ble_eq_true rfl) (Nat.zero_le _) (Nat.zero_le _) ?_
    refine wx_pop dJ0_checkIndex_df160_8 rfl ?_
    refine wx_vret dJ0_checkIndex_df160_9 (Nat.zero_le _) (Nat.zero_le _) ?_
    exact ⟨rfl, rfl, rfl, rfl, rfl, rfl⟩
  · refine wx_callSpi (av := [.int i, .int N, .retAddr 8]) dJ0_checkIndex_df160_5 ml_J0_1059 my_J3_checkIndex_8e157 sv_J3_checkIndex_8e157 (m_check3 (d := d - 1) (Or.inr rfl) h1 h2) rfl (by omega) (by exact Nat.le_of_ble_eq_true rfl) (Nat.zero_le _) (Nat.zero_le _) ?_
    refine wx_pop dJ0_checkIndex_df160_8 rfl ?_
    refine wx_vret dJ0_checkIndex_df160_9 (Nat.zero_le _) (Nat.zero_le _) ?_
    exact ⟨rfl, rfl, rfl, rfl, rfl, rfl⟩
def px_ch (j : Nat) : Int32 := ((px_bytes.getD j 0 &&& 255).toUInt32 % 65536).toInt32
theorem px_ch_n : ∀ j, j < 80 → narrow .char (.int (px_ch j)) = .int (px_ch j) := by decide +kernel
theorem m_J1_charAt {d : Nat} {X : Nat × (Nat → Int32)} {sh : px_Sh} {M : px_M} {L : px_L} {R : px_R} {n : Nat} {i : Int32} (hd : 2 ≤ d) (h1 : vp_in i 80) : MX yJ1_charAt_3b067 cJ1_charAt_3b067 2 (some .char) d 0 0 X [.retAddr 7, .int i] sh M L R n (px_pu (some (.int (px_ch i.toNatClampNeg))) sh M L R n) := by
  obtain ⟨j, hj, rfl⟩ := vp_in_of h1 (by decide)
  refine MX.of (by decide +kernel) (by exact Nat.le_of_ble_eq_true rfl) ?_
  refine wx_iload_n dJ1_charAt_3b067_0 rfl ?_
  refine wx_xload_n dJ1_charAt_3b067_1 rfl ?_
  refine wx_blen dJ1_charAt_3b067_2 ?_
  refine wx_cSv (av := [.int (nI j), .int 80]) dJ1_charAt_3b067_3 ml_J1_9 my_J0_checkIndex_df160 sv_J0_checkIndex_df160 (m_check0 (d := d - 1) (by omega) (nI_pos (by omega)) (by rw [show (80 : Int32) = nI 80 from rfl]; exact nI_lt hj (by decide))) rfl (by omega) (by exact Nat.le_of_ble_eq_true rfl) (Nat.zero_le _) (Nat.zero_le _) ?_
  refine wx_xload_n dJ1_charAt_3b067_6 rfl ?_
  refine wx_iload_n dJ1_charAt_3b067_7 rfl ?_
  refine wx_bytes dJ1_charAt_3b067_8 h1 ?_
  refine wx_sipush (v := 255) dJ1_charAt_3b067_9 (by decide) ?_
  refine wx_iand dJ1_charAt_3b067_12 ?_
  refine wx_i2c dJ1_charAt_3b067_13 ?_
  refine wx_cret dJ1_charAt_3b067_14 (px_ch_n _ (by rw [nI_clamp (by omega)]; exact hj)) (Nat.zero_le _) (Nat.zero_le _) ?_
  exact ⟨rfl, rfl, rfl, rfl, rfl, rfl⟩
theorem m_charAt {d : Nat} {X : Nat × (Nat → Int32)} {sh : px_Sh} {M : px_M} {L : px_L} {R : px_R} {n : Nat} {i : Int32} (hd : 3 ≤ d) (h1 : vp_in i 80) : MX yJ0_charAt_5068e cJ0_charAt_5068e 2 (some .char) d 0 0 X [.retAddr 6, .int i] sh M L R n (px_pu (some (.int (px_ch i.toNatClampNeg))) sh M L R n) := by
  refine MX.of (by decide +kernel) (by exact Nat.le_of_ble_eq_true rfl) ?_
  refine wx_xload_n dJ0_charAt_5068e_0 rfl ?_
  refine wx_callVE (av := []) dJ0_charAt_5068e_1 ml_J0_492 my_J0_isLatin1_aae02 ws_ivL (m_isLatin1 (d := d - 1)) rfl (by omega) (by exact Nat.le_of_ble_eq_true rfl) (Nat.zero_le _) (Nat.zero_le _) ?_
  refine wx_if_eq (tgt := 16) dJ0_charAt_5068e_4 (by decide) (fun c => absurd c (by decide)) (fun _ => ?_)
  refine wx_xload_n dJ0_charAt_5068e_7 rfl ?_
  refine wx_strval dJ0_charAt_5068e_8 ?_
  refine wx_iload_n dJ0_charAt_5068e_11 rfl ?_
  refine wx_callSpi (av := [.retAddr 7, .int i]) dJ0_charAt_5068e_12 ml_J0_495 my_J1_charAt_3b067 sv_J1_charAt_3b067 (m_J1_charAt (d := d - 1) (by omega) h1) rfl (by omega) (by exact Nat.le_of_ble_eq_true rfl) (Nat.zero_le _) (Nat.zero_le _) ?_
  obtain ⟨j, hj, rfl⟩ := vp_in_of h1 (by decide)
  refine wx_cret dJ0_charAt_5068e_15 (px_ch_n _ (by rw [nI_clamp (by omega)]; exact hj)) (Nat.zero_le _) (Nat.zero_le _) ?_
  exact ⟨rfl, rfl, rfl, rfl, rfl, rfl⟩
