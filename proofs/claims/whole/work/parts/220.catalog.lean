/-! the class: offers and the best sheet -/
theorem nI_inj {a b : Nat} (ha : a < 2 ^ 31) (hb : b < 2 ^ 31) (h : nI a = nI b) : a = b := (nI_eq ha hb).mp h
theorem nI_p1 (k : Nat) : nI k + 1 = nI (k + 1) := nI_1 k
/-- 0 ≤ j ≤ k - 1, as the class asks it -/
theorem in_of {j k : Nat} (h : j < k) (hk : k < 2 ^ 31) : (0 : Int32) ≤ nI j ∧ nI j ≤ nI k - 1 := by
  refine ⟨nI_pos' (by omega), ?_⟩
  show nI j ≤ nI k - nI 1
  rw [pk_sub (by omega)]
  exact nI_le (by omega) (by omega)
theorem m_X0_addOffer {d : Nat} {X : Nat × (Nat → Int32)} {sh : px_Sh} {M : px_M} {L : px_L} {R : px_R} {n : Nat} (hS : SR sh R) {k : Nat} (hk : M 61 4 = nI k) (hk2 : k ≤ 12) (x y g c : Int32) : MX yX0_addOffer cX0_addOffer 5 (some .int) d 0 0 X [.ref 61, .int x, .int y, .int g, .int c] sh M L R n (px_im (fun r M' => if k = 12 then r = -1 ∧ M' = M else r = nI k ∧ M' = px_u (px_u (px_u (px_u (px_u M 62 k x) 63 k y) 64 k g) 65 k c) 61 4 (nI (k + 1))) sh L R n) := by
  refine MX.of (by decide +kernel) (by exact Nat.le_of_ble_eq_true rfl) ?_
  refine wx_aload_n dX0_addOffer_0 rfl ?_
  refine wx_getI dX0_addOffer_1 fl_X0_28 (sc_61 hS) rfl ?_
  refine wx_bipush (v := 12) dX0_addOffer_4 (by decide) ?_
  refine wx_icmp_ne (tgt := 11) dX0_addOffer_6 (by decide) (fun c_6 => ?_) (fun c_6 => ?_)
  · have e : ¬ k = 12 := fun q => c_6 (by rw [hk, q]; rfl)
    refine wx_aload_n dX0_addOffer_11 rfl ?_
    refine wx_getR dX0_addOffer_12 fl_X0_9 (sc_61 hS) rfl (rr_61_0 hS) ?_
    refine wx_aload_n dX0_addOffer_15 rfl ?_
    refine wx_getI dX0_addOffer_16 fl_X0_28 (sc_61 hS) rfl ?_
    refine wx_iload_n dX0_addOffer_19 rfl ?_
    refine wx_iastk (k := k) dX0_addOffer_20 (sc_62 hS) hk (by omega) (by decide) ?_
    refine wx_aload_n dX0_addOffer_21 rfl ?_
    refine wx_getR dX0_addOffer_22 fl_X0_13 (sc_61 hS) rfl (rr_61_1 hS) ?_
    refine wx_aload_n dX0_addOffer_25 rfl ?_
    refine wx_getI dX0_addOffer_26 fl_X0_28 (sc_61 hS) rfl ?_
    refine wx_iload_n dX0_addOffer_29 rfl ?_
    refine wx_iastk (k := k) dX0_addOffer_30 (sc_63 hS) (by simp [px_u, hk]) (by omega) (by decide) ?_
    refine wx_aload_n dX0_addOffer_31 rfl ?_
    refine wx_getR dX0_addOffer_32 fl_X0_16 (sc_61 hS) rfl (rr_61_2 hS) ?_
    refine wx_aload_n dX0_addOffer_35 rfl ?_
    refine wx_getI dX0_addOffer_36 fl_X0_28 (sc_61 hS) rfl ?_
    refine wx_iload_n dX0_addOffer_39 rfl ?_
    refine wx_iastk (k := k) dX0_addOffer_40 (sc_64 hS) (by simp [px_u, hk]) (by omega) (by decide) ?_
    refine wx_aload_n dX0_addOffer_41 rfl ?_
    refine wx_getR dX0_addOffer_42 fl_X0_19 (sc_61 hS) rfl (rr_61_3 hS) ?_
    refine wx_aload_n dX0_addOffer_45 rfl ?_
    refine wx_getI dX0_addOffer_46 fl_X0_28 (sc_61 hS) rfl ?_
    refine wx_iload dX0_addOffer_49 rfl ?_
    refine wx_iastk (k := k) dX0_addOffer_51 (sc_65 hS) (by simp [px_u, hk]) (by omega) (by decide) ?_
    refine wx_aload_n dX0_addOffer_52 rfl ?_
    refine wx_dup dX0_addOffer_53 rfl ?_
    refine wx_getI dX0_addOffer_54 fl_X0_28 (sc_61 hS) rfl ?_
    refine wx_dup_x1 dX0_addOffer_57 rfl rfl ?_
    refine wx_iconst (v := 1) dX0_addOffer_58 (by decide) ?_
    refine wx_iadd dX0_addOffer_59 ?_
    refine wx_putI dX0_addOffer_60 fl_X0_28 (sc_61 hS) (Or.inl rfl) rfl ⟨rfl, rfl⟩ ?_
    refine wx_iret dX0_addOffer_63 (Nat.zero_le _) (Nat.zero_le _) ?_
    have hv : (px_u (px_u (px_u (px_u M 62 k x) 63 k y) 64 k g) 65 k c) 61 4 = nI k := by simp [px_u, hk]
    rw [hv, nI_p1]
    exact ⟨_, rfl, rfl, rfl, rfl, rfl, by dsimp only; rw [if_neg e]; exact ⟨rfl, rfl⟩⟩
  · refine wx_iconst (v := (-1)) dX0_addOffer_9 (by decide) ?_
    refine wx_iret dX0_addOffer_10 (Nat.zero_le _) (Nat.zero_le _) ?_
    have e : k = 12 := nI_inj (by omega) (by decide) (hk.symm.trans c_6)
    exact ⟨_, rfl, rfl, rfl, rfl, rfl, by dsimp only; rw [if_pos e]; exact ⟨rfl, rfl⟩⟩
theorem m_X0_change {d : Nat} {X : Nat × (Nat → Int32)} {sh : px_Sh} {M : px_M} {L : px_L} {R : px_R} {n : Nat} (hd : 1 ≤ d) (hS : SR sh R) {k j : Nat} (hk : M 61 4 = nI k) (hk2 : k ≤ 12) (hj : j < k) : MX yX0_change cX0_change 3 none d 0 0 X [.ref 61, .int (nI j)] sh M L R n (px_vm (fun M' => (∀ b, b ≠ 67 → M' b = M b) ∧ M' 67 0 = M 67 0 ^^^ (1 <<< (nI j &&& 31)) ∧ M' 67 1 = M 67 1 + (if ((M 67 0 ^^^ (1 <<< (nI j &&& 31))) >>> (nI j &&& 31)) &&& 1 = 1 then 1 else -1) * M 64 j ∧ M' 67 2 = M 67 2 + (if ((M 67 0 ^^^ (1 <<< (nI j &&& 31))) >>> (nI j &&& 31)) &&& 1 = 1 then 1 else -1) * M 65 j ∧ M' 67 3 = M 67 3 + (if ((M 67 0 ^^^ (1 <<< (nI j &&& 31))) >>> (nI j &&& 31)) &&& 1 = 1 then 1 else -1) * M 64 j * M 62 j ∧ M' 67 4 = M 67 4 + (if ((M 67 0 ^^^ (1 <<< (nI j &&& 31))) >>> (nI j &&& 31)) &&& 1 = 1 then 1 else -1) * M 64 j * M 63 j) sh L R n) := by
  refine MX.of (by decide +kernel) (by exact Nat.le_of_ble_eq_true rfl) ?_
  have hw : (0 : Int32) ≤ nI j ∧ nI j ≤ M 61 4 - 1 := by rw [hk]; exact in_of hj (by omega)
  refine wx_iload_n dX0_change_0 rfl ?_
  refine wx_iconst (v := 0) dX0_change_1 (by decide) ?_
  refine wx_aload_n dX0_change_2 rfl ?_
  refine wx_getI dX0_change_3 fl_X0_28 (sc_61 hS) rfl ?_
  refine wx_iconst (v := 1) dX0_change_6 (by decide) ?_
  refine wx_isub dX0_change_7 ?_
  refine wx_callSpi dX0_change_8 ml_X0_57 my_X11_within sv_X11_within (m_X11_within (d := d - 1) _ _ _) rfl (by omega) (by exact Nat.le_of_ble_eq_true rfl) (Nat.zero_le _) (Nat.zero_le _) ?_
  refine wx_if_ne (tgt := 15) dX0_change_11 (by decide) (fun _ => ?_) (fun c_11 => absurd c_11 (by rw [if_pos hw]; decide))
  refine wx_aload_n dX0_change_15 rfl ?_
  refine wx_getR dX0_change_16 fl_X0_25 (sc_61 hS) rfl (rr_61_6 hS) ?_
  refine wx_iconst (v := 0) dX0_change_19 (by decide) ?_
  refine wx_dup2_11 dX0_change_20 rfl rfl ?_
  refine wx_ialdk (k := 0) dX0_change_21 (sc_67 hS) rfl (by decide) (by decide) ?_
  refine wx_iconst (v := 1) dX0_change_22 (by decide) ?_
  refine wx_iload_n dX0_change_23 rfl ?_
  refine wx_ishl dX0_change_24 ?_
  refine wx_ixor dX0_change_25 ?_
  refine wx_iastk (k := 0) dX0_change_26 (sc_67 hS) rfl (by decide) (by decide) ?_
  refine wx_aload_n dX0_change_27 rfl ?_
  refine wx_getR dX0_change_28 fl_X0_25 (sc_61 hS) rfl (rr_61_6 hS) ?_
  refine wx_iconst (v := 0) dX0_change_31 (by decide) ?_
  refine wx_ialdk (k := 0) dX0_change_32 (sc_67 hS) rfl (by decide) (by decide) ?_
  refine wx_iload_n dX0_change_33 rfl ?_
  refine wx_ishr dX0_change_34 ?_
  refine wx_iconst (v := 1) dX0_change_35 (by decide) ?_
  refine wx_iand dX0_change_36 ?_
  refine wx_iconst (v := 1) dX0_change_37 (by decide) ?_
  refine wx_icmp_ne (tgt := 45) dX0_change_38 (by decide) (fun c_38 => ?_) (fun c_38 => ?_)
  · refine wx_iconst (v := (-1)) dX0_change_45 (by decide) ?_
    refine wx_istore_n (lv' := [(2, _), (0, _), (1, _)]) dX0_change_46 (by decide) rfl ?_
    refine wx_aload_n dX0_change_47 rfl ?_
    refine wx_getR dX0_change_48 fl_X0_25 (sc_61 hS) rfl (rr_61_6 hS) ?_
    refine wx_iconst (v := 1) dX0_change_51 (by decide) ?_
    refine wx_dup2_11 dX0_change_52 rfl rfl ?_
    refine wx_ialdk (k := 1) dX0_change_53 (sc_67 hS) rfl (by decide) (by decide) ?_
    refine wx_iload_n dX0_change_54 rfl ?_
    refine wx_aload_n dX0_change_55 rfl ?_
    refine wx_getR dX0_change_56 fl_X0_16 (sc_61 hS) rfl (rr_61_2 hS) ?_
    refine wx_iload_n dX0_change_59 rfl ?_
    refine wx_ialdk (k := j) dX0_change_60 (sc_64 hS) rfl (by omega) (by decide) ?_
    refine wx_imul dX0_change_61 ?_
    refine wx_iadd dX0_change_62 ?_
    refine wx_iastk (k := 1) dX0_change_63 (sc_67 hS) rfl (by decide) (by decide) ?_
    refine wx_aload_n dX0_change_64 rfl ?_
    refine wx_getR dX0_change_65 fl_X0_25 (sc_61 hS) rfl (rr_61_6 hS) ?_
    refine wx_iconst (v := 2) dX0_change_68 (by decide) ?_
    refine wx_dup2_11 dX0_change_69 rfl rfl ?_
    refine wx_ialdk (k := 2) dX0_change_70 (sc_67 hS) rfl (by decide) (by decide) ?_
    refine wx_iload_n dX0_change_71 rfl ?_
    refine wx_aload_n dX0_change_72 rfl ?_
    refine wx_getR dX0_change_73 fl_X0_19 (sc_61 hS) rfl (rr_61_3 hS) ?_
    refine wx_iload_n dX0_change_76 rfl ?_
    refine wx_ialdk (k := j) dX0_change_77 (sc_65 hS) rfl (by omega) (by decide) ?_
    refine wx_imul dX0_change_78 ?_
    refine wx_iadd dX0_change_79 ?_
    refine wx_iastk (k := 2) dX0_change_80 (sc_67 hS) rfl (by decide) (by decide) ?_
    refine wx_aload_n dX0_change_81 rfl ?_
    refine wx_getR dX0_change_82 fl_X0_25 (sc_61 hS) rfl (rr_61_6 hS) ?_
    refine wx_iconst (v := 3) dX0_change_85 (by decide) ?_
    refine wx_dup2_11 dX0_change_86 rfl rfl ?_
    refine wx_ialdk (k := 3) dX0_change_87 (sc_67 hS) rfl (by decide) (by decide) ?_
    refine wx_iload_n dX0_change_88 rfl ?_
    refine wx_aload_n dX0_change_89 rfl ?_
    refine wx_getR dX0_change_90 fl_X0_16 (sc_61 hS) rfl (rr_61_2 hS) ?_
    refine wx_iload_n dX0_change_93 rfl ?_
    refine wx_ialdk (k := j) dX0_change_94 (sc_64 hS) rfl (by omega) (by decide) ?_
    refine wx_imul dX0_change_95 ?_
    refine wx_aload_n dX0_change_96 rfl ?_
    refine wx_getR dX0_change_97 fl_X0_9 (sc_61 hS) rfl (rr_61_0 hS) ?_
    refine wx_iload_n dX0_change_100 rfl ?_
    refine wx_ialdk (k := j) dX0_change_101 (sc_62 hS) rfl (by omega) (by decide) ?_
    refine wx_imul dX0_change_102 ?_
    refine wx_iadd dX0_change_103 ?_
    refine wx_iastk (k := 3) dX0_change_104 (sc_67 hS) rfl (by decide) (by decide) ?_
    refine wx_aload_n dX0_change_105 rfl ?_
    refine wx_getR dX0_change_106 fl_X0_25 (sc_61 hS) rfl (rr_61_6 hS) ?_
    refine wx_iconst (v := 4) dX0_change_109 (by decide) ?_
    refine wx_dup2_11 dX0_change_110 rfl rfl ?_
    refine wx_ialdk (k := 4) dX0_change_111 (sc_67 hS) rfl (by decide) (by decide) ?_
    refine wx_iload_n dX0_change_112 rfl ?_
    refine wx_aload_n dX0_change_113 rfl ?_
    refine wx_getR dX0_change_114 fl_X0_16 (sc_61 hS) rfl (rr_61_2 hS) ?_
    refine wx_iload_n dX0_change_117 rfl ?_
    refine wx_ialdk (k := j) dX0_change_118 (sc_64 hS) rfl (by omega) (by decide) ?_
    refine wx_imul dX0_change_119 ?_
    refine wx_aload_n dX0_change_120 rfl ?_
    refine wx_getR dX0_change_121 fl_X0_13 (sc_61 hS) rfl (rr_61_1 hS) ?_
    refine wx_iload_n dX0_change_124 rfl ?_
    refine wx_ialdk (k := j) dX0_change_125 (sc_63 hS) rfl (by omega) (by decide) ?_
    refine wx_imul dX0_change_126 ?_
    refine wx_iadd dX0_change_127 ?_
    refine wx_iastk (k := 4) dX0_change_128 (sc_67 hS) rfl (by decide) (by decide) ?_
    refine wx_vret dX0_change_129 (Nat.zero_le _) (Nat.zero_le _) ?_
    simp only [px_u_in] at c_38
    refine ⟨rfl, rfl, rfl, rfl, rfl, fun b hb => by simp only [px_u_ne _ _ _ hb], ?_⟩
    simp [px_u, c_38]
  · refine wx_iconst (v := 1) dX0_change_41 (by decide) ?_
    refine wx_goto (tgt := 46) dX0_change_42 (by decide) ?_
    refine wx_istore_n (lv' := [(2, _), (0, _), (1, _)]) dX0_change_46 (by decide) rfl ?_
    refine wx_aload_n dX0_change_47 rfl ?_
    refine wx_getR dX0_change_48 fl_X0_25 (sc_61 hS) rfl (rr_61_6 hS) ?_
    refine wx_iconst (v := 1) dX0_change_51 (by decide) ?_
    refine wx_dup2_11 dX0_change_52 rfl rfl ?_
    refine wx_ialdk (k := 1) dX0_change_53 (sc_67 hS) rfl (by decide) (by decide) ?_
    refine wx_iload_n dX0_change_54 rfl ?_
    refine wx_aload_n dX0_change_55 rfl ?_
    refine wx_getR dX0_change_56 fl_X0_16 (sc_61 hS) rfl (rr_61_2 hS) ?_
    refine wx_iload_n dX0_change_59 rfl ?_
    refine wx_ialdk (k := j) dX0_change_60 (sc_64 hS) rfl (by omega) (by decide) ?_
    refine wx_imul dX0_change_61 ?_
    refine wx_iadd dX0_change_62 ?_
    refine wx_iastk (k := 1) dX0_change_63 (sc_67 hS) rfl (by decide) (by decide) ?_
    refine wx_aload_n dX0_change_64 rfl ?_
    refine wx_getR dX0_change_65 fl_X0_25 (sc_61 hS) rfl (rr_61_6 hS) ?_
    refine wx_iconst (v := 2) dX0_change_68 (by decide) ?_
    refine wx_dup2_11 dX0_change_69 rfl rfl ?_
    refine wx_ialdk (k := 2) dX0_change_70 (sc_67 hS) rfl (by decide) (by decide) ?_
    refine wx_iload_n dX0_change_71 rfl ?_
    refine wx_aload_n dX0_change_72 rfl ?_
    refine wx_getR dX0_change_73 fl_X0_19 (sc_61 hS) rfl (rr_61_3 hS) ?_
    refine wx_iload_n dX0_change_76 rfl ?_
    refine wx_ialdk (k := j) dX0_change_77 (sc_65 hS) rfl (by omega) (by decide) ?_
    refine wx_imul dX0_change_78 ?_
    refine wx_iadd dX0_change_79 ?_
    refine wx_iastk (k := 2) dX0_change_80 (sc_67 hS) rfl (by decide) (by decide) ?_
    refine wx_aload_n dX0_change_81 rfl ?_
    refine wx_getR dX0_change_82 fl_X0_25 (sc_61 hS) rfl (rr_61_6 hS) ?_
    refine wx_iconst (v := 3) dX0_change_85 (by decide) ?_
    refine wx_dup2_11 dX0_change_86 rfl rfl ?_
    refine wx_ialdk (k := 3) dX0_change_87 (sc_67 hS) rfl (by decide) (by decide) ?_
    refine wx_iload_n dX0_change_88 rfl ?_
    refine wx_aload_n dX0_change_89 rfl ?_
    refine wx_getR dX0_change_90 fl_X0_16 (sc_61 hS) rfl (rr_61_2 hS) ?_
    refine wx_iload_n dX0_change_93 rfl ?_
    refine wx_ialdk (k := j) dX0_change_94 (sc_64 hS) rfl (by omega) (by decide) ?_
    refine wx_imul dX0_change_95 ?_
    refine wx_aload_n dX0_change_96 rfl ?_
    refine wx_getR dX0_change_97 fl_X0_9 (sc_61 hS) rfl (rr_61_0 hS) ?_
    refine wx_iload_n dX0_change_100 rfl ?_
    refine wx_ialdk (k := j) dX0_change_101 (sc_62 hS) rfl (by omega) (by decide) ?_
    refine wx_imul dX0_change_102 ?_
    refine wx_iadd dX0_change_103 ?_
    refine wx_iastk (k := 3) dX0_change_104 (sc_67 hS) rfl (by decide) (by decide) ?_
    refine wx_aload_n dX0_change_105 rfl ?_
    refine wx_getR dX0_change_106 fl_X0_25 (sc_61 hS) rfl (rr_61_6 hS) ?_
    refine wx_iconst (v := 4) dX0_change_109 (by decide) ?_
    refine wx_dup2_11 dX0_change_110 rfl rfl ?_
    refine wx_ialdk (k := 4) dX0_change_111 (sc_67 hS) rfl (by decide) (by decide) ?_
    refine wx_iload_n dX0_change_112 rfl ?_
    refine wx_aload_n dX0_change_113 rfl ?_
    refine wx_getR dX0_change_114 fl_X0_16 (sc_61 hS) rfl (rr_61_2 hS) ?_
    refine wx_iload_n dX0_change_117 rfl ?_
    refine wx_ialdk (k := j) dX0_change_118 (sc_64 hS) rfl (by omega) (by decide) ?_
    refine wx_imul dX0_change_119 ?_
    refine wx_aload_n dX0_change_120 rfl ?_
    refine wx_getR dX0_change_121 fl_X0_13 (sc_61 hS) rfl (rr_61_1 hS) ?_
    refine wx_iload_n dX0_change_124 rfl ?_
    refine wx_ialdk (k := j) dX0_change_125 (sc_63 hS) rfl (by omega) (by decide) ?_
    refine wx_imul dX0_change_126 ?_
    refine wx_iadd dX0_change_127 ?_
    refine wx_iastk (k := 4) dX0_change_128 (sc_67 hS) rfl (by decide) (by decide) ?_
    refine wx_vret dX0_change_129 (Nat.zero_le _) (Nat.zero_le _) ?_
    simp only [px_u_in] at c_38
    refine ⟨rfl, rfl, rfl, rfl, rfl, fun b hb => by simp only [px_u_ne _ _ _ hb], ?_⟩
    simp [px_u, c_38]
theorem m_X0_isBetter {d : Nat} {X : Nat × (Nat → Int32)} {sh : px_Sh} {M : px_M} {L : px_L} {R : px_R} {n : Nat} (hS : SR sh R) : MX yX0_isBetter cX0_isBetter 2 (some .boolean) d 0 0 X [.ref 61] sh M L R n (px_pu (some (.int (if M 67 1 = M 66 1 then (if M 67 2 = M 66 2 then (if (M 67 0 &&& (M 67 0 ^^^ M 66 0)) &&& -(M 67 0 ^^^ M 66 0) = 0 then 0 else 1) else (if M 66 2 ≤ M 67 2 then 0 else 1)) else (if M 67 1 ≤ M 66 1 then 0 else 1)))) sh M L R n) := by
  refine MX.of (by decide +kernel) (by exact Nat.le_of_ble_eq_true rfl) ?_
  refine wx_aload_n dX0_isBetter_0 rfl ?_
  refine wx_getR dX0_isBetter_1 fl_X0_25 (sc_61 hS) rfl (rr_61_6 hS) ?_
  refine wx_iconst (v := 1) dX0_isBetter_4 (by decide) ?_
  refine wx_ialdk (k := 1) dX0_isBetter_5 (sc_67 hS) rfl (by decide) (by decide) ?_
  refine wx_aload_n dX0_isBetter_6 rfl ?_
  refine wx_getR dX0_isBetter_7 fl_X0_22 (sc_61 hS) rfl (rr_61_5 hS) ?_
  refine wx_iconst (v := 1) dX0_isBetter_10 (by decide) ?_
  refine wx_ialdk (k := 1) dX0_isBetter_11 (sc_66 hS) rfl (by decide) (by decide) ?_
  refine wx_icmp_eq (tgt := 36) dX0_isBetter_12 (by decide) (fun c_12 => ?_) (fun c_12 => ?_)
  · refine wx_aload_n dX0_isBetter_36 rfl ?_
    refine wx_getR dX0_isBetter_37 fl_X0_25 (sc_61 hS) rfl (rr_61_6 hS) ?_
    refine wx_iconst (v := 2) dX0_isBetter_40 (by decide) ?_
    refine wx_ialdk (k := 2) dX0_isBetter_41 (sc_67 hS) rfl (by decide) (by decide) ?_
    refine wx_aload_n dX0_isBetter_42 rfl ?_
    refine wx_getR dX0_isBetter_43 fl_X0_22 (sc_61 hS) rfl (rr_61_5 hS) ?_
    refine wx_iconst (v := 2) dX0_isBetter_46 (by decide) ?_
    refine wx_ialdk (k := 2) dX0_isBetter_47 (sc_66 hS) rfl (by decide) (by decide) ?_
    refine wx_icmp_eq (tgt := 72) dX0_isBetter_48 (by decide) (fun c_48 => ?_) (fun c_48 => ?_)
    · refine wx_aload_n dX0_isBetter_72 rfl ?_
      refine wx_getR dX0_isBetter_73 fl_X0_25 (sc_61 hS) rfl (rr_61_6 hS) ?_
      refine wx_iconst (v := 0) dX0_isBetter_76 (by decide) ?_
      refine wx_ialdk (k := 0) dX0_isBetter_77 (sc_67 hS) rfl (by decide) (by decide) ?_
      refine wx_aload_n dX0_isBetter_78 rfl ?_
      refine wx_getR dX0_isBetter_79 fl_X0_22 (sc_61 hS) rfl (rr_61_5 hS) ?_
      refine wx_iconst (v := 0) dX0_isBetter_82 (by decide) ?_
      refine wx_ialdk (k := 0) dX0_isBetter_83 (sc_66 hS) rfl (by decide) (by decide) ?_
      refine wx_ixor dX0_isBetter_84 ?_
      refine wx_istore_n (lv' := [(1, _), (0, _)]) dX0_isBetter_85 (by decide) rfl ?_
      refine wx_aload_n dX0_isBetter_86 rfl ?_
      refine wx_getR dX0_isBetter_87 fl_X0_25 (sc_61 hS) rfl (rr_61_6 hS) ?_
      refine wx_iconst (v := 0) dX0_isBetter_90 (by decide) ?_
      refine wx_ialdk (k := 0) dX0_isBetter_91 (sc_67 hS) rfl (by decide) (by decide) ?_
      refine wx_iload_n dX0_isBetter_92 rfl ?_
      refine wx_iand dX0_isBetter_93 ?_
      refine wx_iload_n dX0_isBetter_94 rfl ?_
      refine wx_ineg dX0_isBetter_95 ?_
      refine wx_iand dX0_isBetter_96 ?_
      refine wx_if_eq (tgt := 104) dX0_isBetter_97 (by decide) (fun c_97 => ?_) (fun c_97 => ?_)
      · refine wx_iconst (v := 0) dX0_isBetter_104 (by decide) ?_
        refine wx_zret dX0_isBetter_105 rfl (Nat.zero_le _) (Nat.zero_le _) ?_
        exact ⟨by simp only [*, if_true, if_false], rfl, rfl, rfl, rfl, rfl⟩
      · refine wx_iconst (v := 1) dX0_isBetter_100 (by decide) ?_
        refine wx_goto (tgt := 105) dX0_isBetter_101 (by decide) ?_
        refine wx_zret dX0_isBetter_105 rfl (Nat.zero_le _) (Nat.zero_le _) ?_
        exact ⟨by simp only [*, if_true, if_false], rfl, rfl, rfl, rfl, rfl⟩
    · refine wx_aload_n dX0_isBetter_51 rfl ?_
      refine wx_getR dX0_isBetter_52 fl_X0_25 (sc_61 hS) rfl (rr_61_6 hS) ?_
      refine wx_iconst (v := 2) dX0_isBetter_55 (by decide) ?_
      refine wx_ialdk (k := 2) dX0_isBetter_56 (sc_67 hS) rfl (by decide) (by decide) ?_
      refine wx_aload_n dX0_isBetter_57 rfl ?_
      refine wx_getR dX0_isBetter_58 fl_X0_22 (sc_61 hS) rfl (rr_61_5 hS) ?_
      refine wx_iconst (v := 2) dX0_isBetter_61 (by decide) ?_
      refine wx_ialdk (k := 2) dX0_isBetter_62 (sc_66 hS) rfl (by decide) (by decide) ?_
      refine wx_icmp_ge (tgt := 70) dX0_isBetter_63 (by decide) (fun c_63 => ?_) (fun c_63 => ?_)
      · refine wx_iconst (v := 0) dX0_isBetter_70 (by decide) ?_
        refine wx_zret dX0_isBetter_71 rfl (Nat.zero_le _) (Nat.zero_le _) ?_
        exact ⟨by simp only [*, if_true, if_false], rfl, rfl, rfl, rfl, rfl⟩
      · refine wx_iconst (v := 1) dX0_isBetter_66 (by decide) ?_
        refine wx_goto (tgt := 71) dX0_isBetter_67 (by decide) ?_
        refine wx_zret dX0_isBetter_71 rfl (Nat.zero_le _) (Nat.zero_le _) ?_
        exact ⟨by simp only [*, if_true, if_false], rfl, rfl, rfl, rfl, rfl⟩
  · refine wx_aload_n dX0_isBetter_15 rfl ?_
    refine wx_getR dX0_isBetter_16 fl_X0_25 (sc_61 hS) rfl (rr_61_6 hS) ?_
    refine wx_iconst (v := 1) dX0_isBetter_19 (by decide) ?_
    refine wx_ialdk (k := 1) dX0_isBetter_20 (sc_67 hS) rfl (by decide) (by decide) ?_
    refine wx_aload_n dX0_isBetter_21 rfl ?_
    refine wx_getR dX0_isBetter_22 fl_X0_22 (sc_61 hS) rfl (rr_61_5 hS) ?_
    refine wx_iconst (v := 1) dX0_isBetter_25 (by decide) ?_
    refine wx_ialdk (k := 1) dX0_isBetter_26 (sc_66 hS) rfl (by decide) (by decide) ?_
    refine wx_icmp_le (tgt := 34) dX0_isBetter_27 (by decide) (fun c_27 => ?_) (fun c_27 => ?_)
    · refine wx_iconst (v := 0) dX0_isBetter_34 (by decide) ?_
      refine wx_zret dX0_isBetter_35 rfl (Nat.zero_le _) (Nat.zero_le _) ?_
      exact ⟨by simp only [*, if_true, if_false], rfl, rfl, rfl, rfl, rfl⟩
    · refine wx_iconst (v := 1) dX0_isBetter_30 (by decide) ?_
      refine wx_goto (tgt := 35) dX0_isBetter_31 (by decide) ?_
      refine wx_zret dX0_isBetter_35 rfl (Nat.zero_le _) (Nat.zero_le _) ?_
      exact ⟨by simp only [*, if_true, if_false], rfl, rfl, rfl, rfl, rfl⟩
