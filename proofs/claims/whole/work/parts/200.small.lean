/-! small pure methods -/
theorem m_X11_within {d : Nat} {X : Nat × (Nat → Int32)} {sh : px_Sh} {M : px_M} {L : px_L} {R : px_R} {n : Nat} (v lo hi : Int32) : MX yX11_within cX11_within 3 (some .boolean) d 0 0 X [.int v, .int lo, .int hi] sh M L R n (px_pu (some (.int (if lo ≤ v ∧ v ≤ hi then 1 else 0))) sh M L R n) := by
  refine MX.of (by decide +kernel) (by exact Nat.le_of_ble_eq_true rfl) ?_
  refine wx_iload_n dX11_within_0 rfl ?_
  refine wx_iload_n dX11_within_1 rfl ?_
  refine wx_icmp_lt (tgt := 14) dX11_within_2 (by decide) (fun c_2 => ?_) (fun c_2 => ?_)
  · refine wx_iconst (v := 0) dX11_within_14 (by decide) ?_
    refine wx_zret dX11_within_15 rfl (Nat.zero_le _) (Nat.zero_le _) ?_
    exact ⟨by (repeat' split) <;> first | rfl | contradiction | grind | simp_all, rfl, rfl, rfl, rfl, rfl⟩
  · refine wx_iload_n dX11_within_5 rfl ?_
    refine wx_iload_n dX11_within_6 rfl ?_
    refine wx_icmp_gt (tgt := 14) dX11_within_7 (by decide) (fun c_7 => ?_) (fun c_7 => ?_)
    · refine wx_iconst (v := 0) dX11_within_14 (by decide) ?_
      refine wx_zret dX11_within_15 rfl (Nat.zero_le _) (Nat.zero_le _) ?_
      exact ⟨by (repeat' split) <;> first | rfl | contradiction | grind | simp_all, rfl, rfl, rfl, rfl, rfl⟩
    · refine wx_iconst (v := 1) dX11_within_10 (by decide) ?_
      refine wx_goto (tgt := 15) dX11_within_11 (by decide) ?_
      refine wx_zret dX11_within_15 rfl (Nat.zero_le _) (Nat.zero_le _) ?_
      exact ⟨by (repeat' split) <;> first | rfl | contradiction | grind | simp_all, rfl, rfl, rfl, rfl, rfl⟩
theorem m_J9_abs_0f7a4 {d : Nat} {X : Nat × (Nat → Int32)} {sh : px_Sh} {M : px_M} {L : px_L} {R : px_R} {n : Nat} (x : Int32) : MX yJ9_abs_0f7a4 cJ9_abs_0f7a4 1 (some .int) d 0 0 X [.int x] sh M L R n (px_pu (some (.int (if 0 ≤ x then x else -x))) sh M L R n) := by
  refine MX.of (by decide +kernel) (by exact Nat.le_of_ble_eq_true rfl) ?_
  refine wx_iload_n dJ9_abs_0f7a4_0 rfl ?_
  refine wx_if_ge (tgt := 9) dJ9_abs_0f7a4_1 (by decide) (fun c_1 => ?_) (fun c_1 => ?_)
  · refine wx_iload_n dJ9_abs_0f7a4_9 rfl ?_
    refine wx_iret dJ9_abs_0f7a4_10 (Nat.zero_le _) (Nat.zero_le _) ?_
    exact ⟨by (repeat' split) <;> first | rfl | contradiction | grind | simp_all, rfl, rfl, rfl, rfl, rfl⟩
  · refine wx_iload_n dJ9_abs_0f7a4_4 rfl ?_
    refine wx_ineg dJ9_abs_0f7a4_5 ?_
    refine wx_goto (tgt := 10) dJ9_abs_0f7a4_6 (by decide) ?_
    refine wx_iret dJ9_abs_0f7a4_10 (Nat.zero_le _) (Nat.zero_le _) ?_
    exact ⟨by (repeat' split) <;> first | rfl | contradiction | grind | simp_all, rfl, rfl, rfl, rfl, rfl⟩
theorem m_J9_abs_067f4 {d : Nat} {X : Nat × (Nat → Int32)} {sh : px_Sh} {M : px_M} {L : px_L} {R : px_R} {n : Nat} (x : Int64) : MX yJ9_abs_067f4 cJ9_abs_067f4 2 (some .long) d 0 0 X [.long x] sh M L R n (px_pu (some (.long (if 0 ≤ lg_cmp x 0 then x else -x))) sh M L R n) := by
  refine MX.of (by decide +kernel) (by exact Nat.le_of_ble_eq_true rfl) ?_
  refine wx_lload_n dJ9_abs_067f4_0 rfl ?_
  refine wx_lconst (v := 0) dJ9_abs_067f4_1 (by decide) ?_
  refine wx_lcmp dJ9_abs_067f4_2 ?_
  refine wx_if_ge (tgt := 11) dJ9_abs_067f4_3 (by decide) (fun c_3 => ?_) (fun c_3 => ?_)
  · refine wx_lload_n dJ9_abs_067f4_11 rfl ?_
    refine wx_lret dJ9_abs_067f4_12 (Nat.zero_le _) (Nat.zero_le _) ?_
    exact ⟨by (repeat' split) <;> first | rfl | contradiction | grind | simp_all, rfl, rfl, rfl, rfl, rfl⟩
  · refine wx_lload_n dJ9_abs_067f4_6 rfl ?_
    refine wx_lneg dJ9_abs_067f4_7 ?_
    refine wx_goto (tgt := 12) dJ9_abs_067f4_8 (by decide) ?_
    refine wx_lret dJ9_abs_067f4_12 (Nat.zero_le _) (Nat.zero_le _) ?_
    exact ⟨by (repeat' split) <;> first | rfl | contradiction | grind | simp_all, rfl, rfl, rfl, rfl, rfl⟩
theorem m_J9_max_7cf53 {d : Nat} {X : Nat × (Nat → Int32)} {sh : px_Sh} {M : px_M} {L : px_L} {R : px_R} {n : Nat} (x y : Int32) : MX yJ9_max_7cf53 cJ9_max_7cf53 2 (some .int) d 0 0 X [.int x, .int y] sh M L R n (px_pu (some (.int (if x < y then y else x))) sh M L R n) := by
  refine MX.of (by decide +kernel) (by exact Nat.le_of_ble_eq_true rfl) ?_
  refine wx_iload_n dJ9_max_7cf53_0 rfl ?_
  refine wx_iload_n dJ9_max_7cf53_1 rfl ?_
  refine wx_icmp_lt (tgt := 9) dJ9_max_7cf53_2 (by decide) (fun c_2 => ?_) (fun c_2 => ?_)
  · refine wx_iload_n dJ9_max_7cf53_9 rfl ?_
    refine wx_iret dJ9_max_7cf53_10 (Nat.zero_le _) (Nat.zero_le _) ?_
    exact ⟨by (repeat' split) <;> first | rfl | contradiction | grind | simp_all, rfl, rfl, rfl, rfl, rfl⟩
  · refine wx_iload_n dJ9_max_7cf53_5 rfl ?_
    refine wx_goto (tgt := 10) dJ9_max_7cf53_6 (by decide) ?_
    refine wx_iret dJ9_max_7cf53_10 (Nat.zero_le _) (Nat.zero_le _) ?_
    exact ⟨by (repeat' split) <;> first | rfl | contradiction | grind | simp_all, rfl, rfl, rfl, rfl, rfl⟩
theorem m_J9_min_7cf53 {d : Nat} {X : Nat × (Nat → Int32)} {sh : px_Sh} {M : px_M} {L : px_L} {R : px_R} {n : Nat} (x y : Int32) : MX yJ9_min_7cf53 cJ9_min_7cf53 2 (some .int) d 0 0 X [.int x, .int y] sh M L R n (px_pu (some (.int (if y < x then y else x))) sh M L R n) := by
  refine MX.of (by decide +kernel) (by exact Nat.le_of_ble_eq_true rfl) ?_
  refine wx_iload_n dJ9_min_7cf53_0 rfl ?_
  refine wx_iload_n dJ9_min_7cf53_1 rfl ?_
  refine wx_icmp_gt (tgt := 9) dJ9_min_7cf53_2 (by decide) (fun c_2 => ?_) (fun c_2 => ?_)
  · refine wx_iload_n dJ9_min_7cf53_9 rfl ?_
    refine wx_iret dJ9_min_7cf53_10 (Nat.zero_le _) (Nat.zero_le _) ?_
    exact ⟨by (repeat' split) <;> first | rfl | contradiction | grind | simp_all, rfl, rfl, rfl, rfl, rfl⟩
  · refine wx_iload_n dJ9_min_7cf53_5 rfl ?_
    refine wx_goto (tgt := 10) dJ9_min_7cf53_6 (by decide) ?_
    refine wx_iret dJ9_min_7cf53_10 (Nat.zero_le _) (Nat.zero_le _) ?_
    exact ⟨by (repeat' split) <;> first | rfl | contradiction | grind | simp_all, rfl, rfl, rfl, rfl, rfl⟩
theorem m_J9_floorMod_7cf53 {d : Nat} {X : Nat × (Nat → Int32)} {sh : px_Sh} {M : px_M} {L : px_L} {R : px_R} {n : Nat} (x y : Int32) (hy : ¬ y = 0) : MX yJ9_floorMod_7cf53 cJ9_floorMod_7cf53 3 (some .int) d 0 0 X [.int x, .int y] sh M L R n (px_pu (some (.int (if ¬ 0 ≤ x ^^^ y ∧ ¬ x - x / y * y = 0 then x - x / y * y + y else x - x / y * y))) sh M L R n) := by
  refine MX.of (by decide +kernel) (by exact Nat.le_of_ble_eq_true rfl) ?_
  refine wx_iload_n dJ9_floorMod_7cf53_0 rfl ?_
  refine wx_iload_n dJ9_floorMod_7cf53_1 rfl ?_
  refine wx_irem dJ9_floorMod_7cf53_2 hy ?_
  refine wx_istore_n (lv' := [(2, _), (0, _), (1, _)]) dJ9_floorMod_7cf53_3 (by decide) rfl ?_
  refine wx_iload_n dJ9_floorMod_7cf53_4 rfl ?_
  refine wx_iload_n dJ9_floorMod_7cf53_5 rfl ?_
  refine wx_ixor dJ9_floorMod_7cf53_6 ?_
  refine wx_if_ge (tgt := 18) dJ9_floorMod_7cf53_7 (by decide) (fun c_7 => ?_) (fun c_7 => ?_)
  · refine wx_iload_n dJ9_floorMod_7cf53_18 rfl ?_
    refine wx_iret dJ9_floorMod_7cf53_19 (Nat.zero_le _) (Nat.zero_le _) ?_
    exact ⟨by (repeat' split) <;> first | rfl | contradiction | grind | simp_all, rfl, rfl, rfl, rfl, rfl⟩
  · refine wx_iload_n dJ9_floorMod_7cf53_10 rfl ?_
    refine wx_if_eq (tgt := 18) dJ9_floorMod_7cf53_11 (by decide) (fun c_11 => ?_) (fun c_11 => ?_)
    · refine wx_iload_n dJ9_floorMod_7cf53_18 rfl ?_
      refine wx_iret dJ9_floorMod_7cf53_19 (Nat.zero_le _) (Nat.zero_le _) ?_
      exact ⟨by (repeat' split) <;> first | rfl | contradiction | grind | simp_all, rfl, rfl, rfl, rfl, rfl⟩
    · refine wx_iload_n dJ9_floorMod_7cf53_14 rfl ?_
      refine wx_iload_n dJ9_floorMod_7cf53_15 rfl ?_
      refine wx_iadd dJ9_floorMod_7cf53_16 ?_
      refine wx_iret dJ9_floorMod_7cf53_17 (Nat.zero_le _) (Nat.zero_le _) ?_
      exact ⟨by (repeat' split) <;> first | rfl | contradiction | grind | simp_all, rfl, rfl, rfl, rfl, rfl⟩
def j_bc (x : Int32) : Int32 :=
  let a := x - ((x.toUInt32 >>> ((1 : Int32).toUInt32 &&& Int32.toUInt32 31)).toInt32 &&& 1431655765)
  let b := (a &&& 858993459) + ((a.toUInt32 >>> ((2 : Int32).toUInt32 &&& Int32.toUInt32 31)).toInt32 &&& 858993459)
  let c := b + (b.toUInt32 >>> ((4 : Int32).toUInt32 &&& Int32.toUInt32 31)).toInt32 &&& 252645135
  let e := c + (c.toUInt32 >>> ((8 : Int32).toUInt32 &&& Int32.toUInt32 31)).toInt32
  let f := e + (e.toUInt32 >>> ((16 : Int32).toUInt32 &&& Int32.toUInt32 31)).toInt32
  f &&& 63
theorem m_J6_bitCount_0f7a4 {d : Nat} {X : Nat × (Nat → Int32)} {sh : px_Sh} {M : px_M} {L : px_L} {R : px_R} {n : Nat} (x : Int32) : MX yJ6_bitCount_0f7a4 cJ6_bitCount_0f7a4 1 (some .int) d 0 0 X [.int x] sh M L R n (px_pu (some (.int (j_bc x))) sh M L R n) := by
  refine MX.of (by decide +kernel) (by exact Nat.le_of_ble_eq_true rfl) ?_
  refine wx_iload_n dJ6_bitCount_0f7a4_0 rfl ?_
  refine wx_iload_n dJ6_bitCount_0f7a4_1 rfl ?_
  refine wx_iconst (v := 1) dJ6_bitCount_0f7a4_2 (by decide) ?_
  refine wx_iushr dJ6_bitCount_0f7a4_3 ?_
  refine wx_ldcw dJ6_bitCount_0f7a4_4 ki_J6_265 ?_
  refine wx_iand dJ6_bitCount_0f7a4_7 ?_
  refine wx_isub dJ6_bitCount_0f7a4_8 ?_
  refine wx_istore_n (lv' := [(0, _)]) dJ6_bitCount_0f7a4_9 (by decide) rfl ?_
  refine wx_iload_n dJ6_bitCount_0f7a4_10 rfl ?_
  refine wx_ldcw dJ6_bitCount_0f7a4_11 ki_J6_266 ?_
  refine wx_iand dJ6_bitCount_0f7a4_14 ?_
  refine wx_iload_n dJ6_bitCount_0f7a4_15 rfl ?_
  refine wx_iconst (v := 2) dJ6_bitCount_0f7a4_16 (by decide) ?_
  refine wx_iushr dJ6_bitCount_0f7a4_17 ?_
  refine wx_ldcw dJ6_bitCount_0f7a4_18 ki_J6_266 ?_
  refine wx_iand dJ6_bitCount_0f7a4_21 ?_
  refine wx_iadd dJ6_bitCount_0f7a4_22 ?_
  refine wx_istore_n (lv' := [(0, _)]) dJ6_bitCount_0f7a4_23 (by decide) rfl ?_
  refine wx_iload_n dJ6_bitCount_0f7a4_24 rfl ?_
  refine wx_iload_n dJ6_bitCount_0f7a4_25 rfl ?_
  refine wx_iconst (v := 4) dJ6_bitCount_0f7a4_26 (by decide) ?_
  refine wx_iushr dJ6_bitCount_0f7a4_27 ?_
  refine wx_iadd dJ6_bitCount_0f7a4_28 ?_
  refine wx_ldcw dJ6_bitCount_0f7a4_29 ki_J6_267 ?_
  refine wx_iand dJ6_bitCount_0f7a4_32 ?_
  refine wx_istore_n (lv' := [(0, _)]) dJ6_bitCount_0f7a4_33 (by decide) rfl ?_
  refine wx_iload_n dJ6_bitCount_0f7a4_34 rfl ?_
  refine wx_iload_n dJ6_bitCount_0f7a4_35 rfl ?_
  refine wx_bipush (v := 8) dJ6_bitCount_0f7a4_36 (by decide) ?_
  refine wx_iushr dJ6_bitCount_0f7a4_38 ?_
  refine wx_iadd dJ6_bitCount_0f7a4_39 ?_
  refine wx_istore_n (lv' := [(0, _)]) dJ6_bitCount_0f7a4_40 (by decide) rfl ?_
  refine wx_iload_n dJ6_bitCount_0f7a4_41 rfl ?_
  refine wx_iload_n dJ6_bitCount_0f7a4_42 rfl ?_
  refine wx_bipush (v := 16) dJ6_bitCount_0f7a4_43 (by decide) ?_
  refine wx_iushr dJ6_bitCount_0f7a4_45 ?_
  refine wx_iadd dJ6_bitCount_0f7a4_46 ?_
  refine wx_istore_n (lv' := [(0, _)]) dJ6_bitCount_0f7a4_47 (by decide) rfl ?_
  refine wx_iload_n dJ6_bitCount_0f7a4_48 rfl ?_
  refine wx_bipush (v := 63) dJ6_bitCount_0f7a4_49 (by decide) ?_
  refine wx_iand dJ6_bitCount_0f7a4_51 ?_
  refine wx_iret dJ6_bitCount_0f7a4_52 (Nat.zero_le _) (Nat.zero_le _) ?_
  exact ⟨rfl, rfl, rfl, rfl, rfl, rfl⟩
theorem m_J6_numberOfTrailingZeros_0f7a4 {d : Nat} {X : Nat × (Nat → Int32)} {sh : px_Sh} {M : px_M} {L : px_L} {R : px_R} {n : Nat} (x : Int32) (t : Nat) (ht : t < 12) (hx : (x ^^^ (-1)) &&& (x - 1) = nI (2 ^ t - 1)) : MX yJ6_numberOfTrailingZeros_0f7a4 cJ6_numberOfTrailingZeros_0f7a4 2 (some .int) d 0 0 X [.int x] sh M L R n (px_pu (some (.int (nI t))) sh M L R n) := by
  refine MX.of (by decide +kernel) (by exact Nat.le_of_ble_eq_true rfl) ?_
  refine wx_iload_n dJ6_numberOfTrailingZeros_0f7a4_0 rfl ?_
  refine wx_iconst (v := (-1)) dJ6_numberOfTrailingZeros_0f7a4_1 (by decide) ?_
  refine wx_ixor dJ6_numberOfTrailingZeros_0f7a4_2 ?_
  refine wx_iload_n dJ6_numberOfTrailingZeros_0f7a4_3 rfl ?_
  refine wx_iconst (v := 1) dJ6_numberOfTrailingZeros_0f7a4_4 (by decide) ?_
  refine wx_isub dJ6_numberOfTrailingZeros_0f7a4_5 ?_
  refine wx_iand dJ6_numberOfTrailingZeros_0f7a4_6 ?_
  rw [hx]
  refine wx_istore_n (lv' := [(0, _)]) dJ6_numberOfTrailingZeros_0f7a4_7 (by decide) rfl ?_
  refine wx_iload_n dJ6_numberOfTrailingZeros_0f7a4_8 rfl ?_
  refine wx_if_gt (tgt := 17) dJ6_numberOfTrailingZeros_0f7a4_9 (by decide) (fun c_9 => ?_) (fun c_9 => ?_)
  · refine wx_iconst (v := 1) dJ6_numberOfTrailingZeros_0f7a4_17 (by decide) ?_
    refine wx_istore_n (lv' := [(1, _), (0, _)]) dJ6_numberOfTrailingZeros_0f7a4_18 (by decide) rfl ?_
    refine wx_iload_n dJ6_numberOfTrailingZeros_0f7a4_19 rfl ?_
    refine wx_ldcw dJ6_numberOfTrailingZeros_0f7a4_20 ki_J6_264 ?_
    refine wx_icmp_le (tgt := 34) dJ6_numberOfTrailingZeros_0f7a4_23 (by decide) (fun c_23 => ?_) (fun c_23 => ?_)
    · refine wx_iload_n dJ6_numberOfTrailingZeros_0f7a4_34 rfl ?_
      refine wx_sipush (v := 256) dJ6_numberOfTrailingZeros_0f7a4_35 (by decide) ?_
      refine wx_icmp_le (tgt := 49) dJ6_numberOfTrailingZeros_0f7a4_38 (by decide) (fun c_38 => ?_) (fun c_38 => ?_)
      · refine wx_iload_n dJ6_numberOfTrailingZeros_0f7a4_49 rfl ?_
        refine wx_bipush (v := 16) dJ6_numberOfTrailingZeros_0f7a4_50 (by decide) ?_
        refine wx_icmp_le (tgt := 62) dJ6_numberOfTrailingZeros_0f7a4_52 (by decide) (fun c_52 => ?_) (fun c_52 => ?_)
        · refine wx_iload_n dJ6_numberOfTrailingZeros_0f7a4_62 rfl ?_
          refine wx_iconst (v := 4) dJ6_numberOfTrailingZeros_0f7a4_63 (by decide) ?_
          refine wx_icmp_le (tgt := 74) dJ6_numberOfTrailingZeros_0f7a4_64 (by decide) (fun c_64 => ?_) (fun c_64 => ?_)
          · refine wx_iload_n dJ6_numberOfTrailingZeros_0f7a4_74 rfl ?_
            refine wx_iload_n dJ6_numberOfTrailingZeros_0f7a4_75 rfl ?_
            refine wx_iconst (v := 1) dJ6_numberOfTrailingZeros_0f7a4_76 (by decide) ?_
            refine wx_iushr dJ6_numberOfTrailingZeros_0f7a4_77 ?_
            refine wx_iadd dJ6_numberOfTrailingZeros_0f7a4_78 ?_
            refine wx_iret dJ6_numberOfTrailingZeros_0f7a4_79 (Nat.zero_le _) (Nat.zero_le _) ?_
            refine ⟨?_, rfl, rfl, rfl, rfl, rfl⟩
            rcases (show t = 0 ∨ t = 1 ∨ t = 2 ∨ t = 3 ∨ t = 4 ∨ t = 5 ∨ t = 6 ∨ t = 7 ∨ t = 8 ∨ t = 9 ∨ t = 10 ∨ t = 11 by omega) with rfl | rfl | rfl | rfl | rfl | rfl | rfl | rfl | rfl | rfl | rfl | rfl <;> first | decide | (exfalso; revert c_9; decide) | (exfalso; revert c_23; decide) | (exfalso; revert c_38; decide) | (exfalso; revert c_52; decide) | (exfalso; revert c_64; decide)
          · refine wx_iinc (lv' := [(1, _), (0, _)]) dJ6_numberOfTrailingZeros_0f7a4_67 rfl rfl (by decide) rfl ?_
            refine wx_iload_n dJ6_numberOfTrailingZeros_0f7a4_70 rfl ?_
            refine wx_iconst (v := 2) dJ6_numberOfTrailingZeros_0f7a4_71 (by decide) ?_
            refine wx_iushr dJ6_numberOfTrailingZeros_0f7a4_72 ?_
            refine wx_istore_n (lv' := [(0, _), (1, _)]) dJ6_numberOfTrailingZeros_0f7a4_73 (by decide) rfl ?_
            refine wx_iload_n dJ6_numberOfTrailingZeros_0f7a4_74 rfl ?_
            refine wx_iload_n dJ6_numberOfTrailingZeros_0f7a4_75 rfl ?_
            refine wx_iconst (v := 1) dJ6_numberOfTrailingZeros_0f7a4_76 (by decide) ?_
            refine wx_iushr dJ6_numberOfTrailingZeros_0f7a4_77 ?_
            refine wx_iadd dJ6_numberOfTrailingZeros_0f7a4_78 ?_
            refine wx_iret dJ6_numberOfTrailingZeros_0f7a4_79 (Nat.zero_le _) (Nat.zero_le _) ?_
            refine ⟨?_, rfl, rfl, rfl, rfl, rfl⟩
            rcases (show t = 0 ∨ t = 1 ∨ t = 2 ∨ t = 3 ∨ t = 4 ∨ t = 5 ∨ t = 6 ∨ t = 7 ∨ t = 8 ∨ t = 9 ∨ t = 10 ∨ t = 11 by omega) with rfl | rfl | rfl | rfl | rfl | rfl | rfl | rfl | rfl | rfl | rfl | rfl <;> first | decide | (exfalso; revert c_9; decide) | (exfalso; revert c_23; decide) | (exfalso; revert c_38; decide) | (exfalso; revert c_52; decide) | (exfalso; revert c_64; decide)
        · refine wx_iinc (lv' := [(1, _), (0, _)]) dJ6_numberOfTrailingZeros_0f7a4_55 rfl rfl (by decide) rfl ?_
          refine wx_iload_n dJ6_numberOfTrailingZeros_0f7a4_58 rfl ?_
          refine wx_iconst (v := 4) dJ6_numberOfTrailingZeros_0f7a4_59 (by decide) ?_
          refine wx_iushr dJ6_numberOfTrailingZeros_0f7a4_60 ?_
          refine wx_istore_n (lv' := [(0, _), (1, _)]) dJ6_numberOfTrailingZeros_0f7a4_61 (by decide) rfl ?_
          refine wx_iload_n dJ6_numberOfTrailingZeros_0f7a4_62 rfl ?_
          refine wx_iconst (v := 4) dJ6_numberOfTrailingZeros_0f7a4_63 (by decide) ?_
          refine wx_icmp_le (tgt := 74) dJ6_numberOfTrailingZeros_0f7a4_64 (by decide) (fun c_64 => ?_) (fun c_64 => ?_)
          · refine wx_iload_n dJ6_numberOfTrailingZeros_0f7a4_74 rfl ?_
            refine wx_iload_n dJ6_numberOfTrailingZeros_0f7a4_75 rfl ?_
            refine wx_iconst (v := 1) dJ6_numberOfTrailingZeros_0f7a4_76 (by decide) ?_
            refine wx_iushr dJ6_numberOfTrailingZeros_0f7a4_77 ?_
            refine wx_iadd dJ6_numberOfTrailingZeros_0f7a4_78 ?_
            refine wx_iret dJ6_numberOfTrailingZeros_0f7a4_79 (Nat.zero_le _) (Nat.zero_le _) ?_
            refine ⟨?_, rfl, rfl, rfl, rfl, rfl⟩
            rcases (show t = 0 ∨ t = 1 ∨ t = 2 ∨ t = 3 ∨ t = 4 ∨ t = 5 ∨ t = 6 ∨ t = 7 ∨ t = 8 ∨ t = 9 ∨ t = 10 ∨ t = 11 by omega) with rfl | rfl | rfl | rfl | rfl | rfl | rfl | rfl | rfl | rfl | rfl | rfl <;> first | decide | (exfalso; revert c_9; decide) | (exfalso; revert c_23; decide) | (exfalso; revert c_38; decide) | (exfalso; revert c_52; decide) | (exfalso; revert c_64; decide)
          · refine wx_iinc (lv' := [(1, _), (0, _)]) dJ6_numberOfTrailingZeros_0f7a4_67 rfl rfl (by decide) rfl ?_
            refine wx_iload_n dJ6_numberOfTrailingZeros_0f7a4_70 rfl ?_
            refine wx_iconst (v := 2) dJ6_numberOfTrailingZeros_0f7a4_71 (by decide) ?_
            refine wx_iushr dJ6_numberOfTrailingZeros_0f7a4_72 ?_
            refine wx_istore_n (lv' := [(0, _), (1, _)]) dJ6_numberOfTrailingZeros_0f7a4_73 (by decide) rfl ?_
            refine wx_iload_n dJ6_numberOfTrailingZeros_0f7a4_74 rfl ?_
            refine wx_iload_n dJ6_numberOfTrailingZeros_0f7a4_75 rfl ?_
            refine wx_iconst (v := 1) dJ6_numberOfTrailingZeros_0f7a4_76 (by decide) ?_
            refine wx_iushr dJ6_numberOfTrailingZeros_0f7a4_77 ?_
            refine wx_iadd dJ6_numberOfTrailingZeros_0f7a4_78 ?_
            refine wx_iret dJ6_numberOfTrailingZeros_0f7a4_79 (Nat.zero_le _) (Nat.zero_le _) ?_
            refine ⟨?_, rfl, rfl, rfl, rfl, rfl⟩
            rcases (show t = 0 ∨ t = 1 ∨ t = 2 ∨ t = 3 ∨ t = 4 ∨ t = 5 ∨ t = 6 ∨ t = 7 ∨ t = 8 ∨ t = 9 ∨ t = 10 ∨ t = 11 by omega) with rfl | rfl | rfl | rfl | rfl | rfl | rfl | rfl | rfl | rfl | rfl | rfl <;> first | decide | (exfalso; revert c_9; decide) | (exfalso; revert c_23; decide) | (exfalso; revert c_38; decide) | (exfalso; revert c_52; decide) | (exfalso; revert c_64; decide)
      · refine wx_iinc (lv' := [(1, _), (0, _)]) dJ6_numberOfTrailingZeros_0f7a4_41 rfl rfl (by decide) rfl ?_
        refine wx_iload_n dJ6_numberOfTrailingZeros_0f7a4_44 rfl ?_
        refine wx_bipush (v := 8) dJ6_numberOfTrailingZeros_0f7a4_45 (by decide) ?_
        refine wx_iushr dJ6_numberOfTrailingZeros_0f7a4_47 ?_
        refine wx_istore_n (lv' := [(0, _), (1, _)]) dJ6_numberOfTrailingZeros_0f7a4_48 (by decide) rfl ?_
        refine wx_iload_n dJ6_numberOfTrailingZeros_0f7a4_49 rfl ?_
        refine wx_bipush (v := 16) dJ6_numberOfTrailingZeros_0f7a4_50 (by decide) ?_
        refine wx_icmp_le (tgt := 62) dJ6_numberOfTrailingZeros_0f7a4_52 (by decide) (fun c_52 => ?_) (fun c_52 => ?_)
        · refine wx_iload_n dJ6_numberOfTrailingZeros_0f7a4_62 rfl ?_
          refine wx_iconst (v := 4) dJ6_numberOfTrailingZeros_0f7a4_63 (by decide) ?_
          refine wx_icmp_le (tgt := 74) dJ6_numberOfTrailingZeros_0f7a4_64 (by decide) (fun c_64 => ?_) (fun c_64 => ?_)
          · refine wx_iload_n dJ6_numberOfTrailingZeros_0f7a4_74 rfl ?_
            refine wx_iload_n dJ6_numberOfTrailingZeros_0f7a4_75 rfl ?_
            refine wx_iconst (v := 1) dJ6_numberOfTrailingZeros_0f7a4_76 (by decide) ?_
            refine wx_iushr dJ6_numberOfTrailingZeros_0f7a4_77 ?_
            refine wx_iadd dJ6_numberOfTrailingZeros_0f7a4_78 ?_
            refine wx_iret dJ6_numberOfTrailingZeros_0f7a4_79 (Nat.zero_le _) (Nat.zero_le _) ?_
            refine ⟨?_, rfl, rfl, rfl, rfl, rfl⟩
            rcases (show t = 0 ∨ t = 1 ∨ t = 2 ∨ t = 3 ∨ t = 4 ∨ t = 5 ∨ t = 6 ∨ t = 7 ∨ t = 8 ∨ t = 9 ∨ t = 10 ∨ t = 11 by omega) with rfl | rfl | rfl | rfl | rfl | rfl | rfl | rfl | rfl | rfl | rfl | rfl <;> first | decide | (exfalso; revert c_9; decide) | (exfalso; revert c_23; decide) | (exfalso; revert c_38; decide) | (exfalso; revert c_52; decide) | (exfalso; revert c_64; decide)
          · refine wx_iinc (lv' := [(1, _), (0, _)]) dJ6_numberOfTrailingZeros_0f7a4_67 rfl rfl (by decide) rfl ?_
            refine wx_iload_n dJ6_numberOfTrailingZeros_0f7a4_70 rfl ?_
            refine wx_iconst (v := 2) dJ6_numberOfTrailingZeros_0f7a4_71 (by decide) ?_
            refine wx_iushr dJ6_numberOfTrailingZeros_0f7a4_72 ?_
            refine wx_istore_n (lv' := [(0, _), (1, _)]) dJ6_numberOfTrailingZeros_0f7a4_73 (by decide) rfl ?_
            refine wx_iload_n dJ6_numberOfTrailingZeros_0f7a4_74 rfl ?_
            refine wx_iload_n dJ6_numberOfTrailingZeros_0f7a4_75 rfl ?_
            refine wx_iconst (v := 1) dJ6_numberOfTrailingZeros_0f7a4_76 (by decide) ?_
            refine wx_iushr dJ6_numberOfTrailingZeros_0f7a4_77 ?_
            refine wx_iadd dJ6_numberOfTrailingZeros_0f7a4_78 ?_
            refine wx_iret dJ6_numberOfTrailingZeros_0f7a4_79 (Nat.zero_le _) (Nat.zero_le _) ?_
            refine ⟨?_, rfl, rfl, rfl, rfl, rfl⟩
            rcases (show t = 0 ∨ t = 1 ∨ t = 2 ∨ t = 3 ∨ t = 4 ∨ t = 5 ∨ t = 6 ∨ t = 7 ∨ t = 8 ∨ t = 9 ∨ t = 10 ∨ t = 11 by omega) with rfl | rfl | rfl | rfl | rfl | rfl | rfl | rfl | rfl | rfl | rfl | rfl <;> first | decide | (exfalso; revert c_9; decide) | (exfalso; revert c_23; decide) | (exfalso; revert c_38; decide) | (exfalso; revert c_52; decide) | (exfalso; revert c_64; decide)
        · refine wx_iinc (lv' := [(1, _), (0, _)]) dJ6_numberOfTrailingZeros_0f7a4_55 rfl rfl (by decide) rfl ?_
          refine wx_iload_n dJ6_numberOfTrailingZeros_0f7a4_58 rfl ?_
          refine wx_iconst (v := 4) dJ6_numberOfTrailingZeros_0f7a4_59 (by decide) ?_
          refine wx_iushr dJ6_numberOfTrailingZeros_0f7a4_60 ?_
          refine wx_istore_n (lv' := [(0, _), (1, _)]) dJ6_numberOfTrailingZeros_0f7a4_61 (by decide) rfl ?_
          refine wx_iload_n dJ6_numberOfTrailingZeros_0f7a4_62 rfl ?_
          refine wx_iconst (v := 4) dJ6_numberOfTrailingZeros_0f7a4_63 (by decide) ?_
          refine wx_icmp_le (tgt := 74) dJ6_numberOfTrailingZeros_0f7a4_64 (by decide) (fun c_64 => ?_) (fun c_64 => ?_)
          · refine wx_iload_n dJ6_numberOfTrailingZeros_0f7a4_74 rfl ?_
            refine wx_iload_n dJ6_numberOfTrailingZeros_0f7a4_75 rfl ?_
            refine wx_iconst (v := 1) dJ6_numberOfTrailingZeros_0f7a4_76 (by decide) ?_
            refine wx_iushr dJ6_numberOfTrailingZeros_0f7a4_77 ?_
            refine wx_iadd dJ6_numberOfTrailingZeros_0f7a4_78 ?_
            refine wx_iret dJ6_numberOfTrailingZeros_0f7a4_79 (Nat.zero_le _) (Nat.zero_le _) ?_
            refine ⟨?_, rfl, rfl, rfl, rfl, rfl⟩
            rcases (show t = 0 ∨ t = 1 ∨ t = 2 ∨ t = 3 ∨ t = 4 ∨ t = 5 ∨ t = 6 ∨ t = 7 ∨ t = 8 ∨ t = 9 ∨ t = 10 ∨ t = 11 by omega) with rfl | rfl | rfl | rfl | rfl | rfl | rfl | rfl | rfl | rfl | rfl | rfl <;> first | decide | (exfalso; revert c_9; decide) | (exfalso; revert c_23; decide) | (exfalso; revert c_38; decide) | (exfalso; revert c_52; decide) | (exfalso; revert c_64; decide)
          · refine wx_iinc (lv' := [(1, _), (0, _)]) dJ6_numberOfTrailingZeros_0f7a4_67 rfl rfl (by decide) rfl ?_
            refine wx_iload_n dJ6_numberOfTrailingZeros_0f7a4_70 rfl ?_
            refine wx_iconst (v := 2) dJ6_numberOfTrailingZeros_0f7a4_71 (by decide) ?_
            refine wx_iushr dJ6_numberOfTrailingZeros_0f7a4_72 ?_
            refine wx_istore_n (lv' := [(0, _), (1, _)]) dJ6_numberOfTrailingZeros_0f7a4_73 (by decide) rfl ?_
            refine wx_iload_n dJ6_numberOfTrailingZeros_0f7a4_74 rfl ?_
            refine wx_iload_n dJ6_numberOfTrailingZeros_0f7a4_75 rfl ?_
            refine wx_iconst (v := 1) dJ6_numberOfTrailingZeros_0f7a4_76 (by decide) ?_
            refine wx_iushr dJ6_numberOfTrailingZeros_0f7a4_77 ?_
            refine wx_iadd dJ6_numberOfTrailingZeros_0f7a4_78 ?_
            refine wx_iret dJ6_numberOfTrailingZeros_0f7a4_79 (Nat.zero_le _) (Nat.zero_le _) ?_
            refine ⟨?_, rfl, rfl, rfl, rfl, rfl⟩
            rcases (show t = 0 ∨ t = 1 ∨ t = 2 ∨ t = 3 ∨ t = 4 ∨ t = 5 ∨ t = 6 ∨ t = 7 ∨ t = 8 ∨ t = 9 ∨ t = 10 ∨ t = 11 by omega) with rfl | rfl | rfl | rfl | rfl | rfl | rfl | rfl | rfl | rfl | rfl | rfl <;> first | decide | (exfalso; revert c_9; decide) | (exfalso; revert c_23; decide) | (exfalso; revert c_38; decide) | (exfalso; revert c_52; decide) | (exfalso; revert c_64; decide)
    · refine wx_iinc (lv' := [(1, _), (0, _)]) dJ6_numberOfTrailingZeros_0f7a4_26 rfl rfl (by decide) rfl ?_
      refine wx_iload_n dJ6_numberOfTrailingZeros_0f7a4_29 rfl ?_
      refine wx_bipush (v := 16) dJ6_numberOfTrailingZeros_0f7a4_30 (by decide) ?_
      refine wx_iushr dJ6_numberOfTrailingZeros_0f7a4_32 ?_
      refine wx_istore_n (lv' := [(0, _), (1, _)]) dJ6_numberOfTrailingZeros_0f7a4_33 (by decide) rfl ?_
      refine wx_iload_n dJ6_numberOfTrailingZeros_0f7a4_34 rfl ?_
      refine wx_sipush (v := 256) dJ6_numberOfTrailingZeros_0f7a4_35 (by decide) ?_
      refine wx_icmp_le (tgt := 49) dJ6_numberOfTrailingZeros_0f7a4_38 (by decide) (fun c_38 => ?_) (fun c_38 => ?_)
      · refine wx_iload_n dJ6_numberOfTrailingZeros_0f7a4_49 rfl ?_
        refine wx_bipush (v := 16) dJ6_numberOfTrailingZeros_0f7a4_50 (by decide) ?_
        refine wx_icmp_le (tgt := 62) dJ6_numberOfTrailingZeros_0f7a4_52 (by decide) (fun c_52 => ?_) (fun c_52 => ?_)
        · refine wx_iload_n dJ6_numberOfTrailingZeros_0f7a4_62 rfl ?_
          refine wx_iconst (v := 4) dJ6_numberOfTrailingZeros_0f7a4_63 (by decide) ?_
          refine wx_icmp_le (tgt := 74) dJ6_numberOfTrailingZeros_0f7a4_64 (by decide) (fun c_64 => ?_) (fun c_64 => ?_)
          · refine wx_iload_n dJ6_numberOfTrailingZeros_0f7a4_74 rfl ?_
            refine wx_iload_n dJ6_numberOfTrailingZeros_0f7a4_75 rfl ?_
            refine wx_iconst (v := 1) dJ6_numberOfTrailingZeros_0f7a4_76 (by decide) ?_
            refine wx_iushr dJ6_numberOfTrailingZeros_0f7a4_77 ?_
            refine wx_iadd dJ6_numberOfTrailingZeros_0f7a4_78 ?_
            refine wx_iret dJ6_numberOfTrailingZeros_0f7a4_79 (Nat.zero_le _) (Nat.zero_le _) ?_
            refine ⟨?_, rfl, rfl, rfl, rfl, rfl⟩
            rcases (show t = 0 ∨ t = 1 ∨ t = 2 ∨ t = 3 ∨ t = 4 ∨ t = 5 ∨ t = 6 ∨ t = 7 ∨ t = 8 ∨ t = 9 ∨ t = 10 ∨ t = 11 by omega) with rfl | rfl | rfl | rfl | rfl | rfl | rfl | rfl | rfl | rfl | rfl | rfl <;> first | decide | (exfalso; revert c_9; decide) | (exfalso; revert c_23; decide) | (exfalso; revert c_38; decide) | (exfalso; revert c_52; decide) | (exfalso; revert c_64; decide)
          · refine wx_iinc (lv' := [(1, _), (0, _)]) dJ6_numberOfTrailingZeros_0f7a4_67 rfl rfl (by decide) rfl ?_
            refine wx_iload_n dJ6_numberOfTrailingZeros_0f7a4_70 rfl ?_
            refine wx_iconst (v := 2) dJ6_numberOfTrailingZeros_0f7a4_71 (by decide) ?_
            refine wx_iushr dJ6_numberOfTrailingZeros_0f7a4_72 ?_
            refine wx_istore_n (lv' := [(0, _), (1, _)]) dJ6_numberOfTrailingZeros_0f7a4_73 (by decide) rfl ?_
            refine wx_iload_n dJ6_numberOfTrailingZeros_0f7a4_74 rfl ?_
            refine wx_iload_n dJ6_numberOfTrailingZeros_0f7a4_75 rfl ?_
            refine wx_iconst (v := 1) dJ6_numberOfTrailingZeros_0f7a4_76 (by decide) ?_
            refine wx_iushr dJ6_numberOfTrailingZeros_0f7a4_77 ?_
            refine wx_iadd dJ6_numberOfTrailingZeros_0f7a4_78 ?_
            refine wx_iret dJ6_numberOfTrailingZeros_0f7a4_79 (Nat.zero_le _) (Nat.zero_le _) ?_
            refine ⟨?_, rfl, rfl, rfl, rfl, rfl⟩
            rcases (show t = 0 ∨ t = 1 ∨ t = 2 ∨ t = 3 ∨ t = 4 ∨ t = 5 ∨ t = 6 ∨ t = 7 ∨ t = 8 ∨ t = 9 ∨ t = 10 ∨ t = 11 by omega) with rfl | rfl | rfl | rfl | rfl | rfl | rfl | rfl | rfl | rfl | rfl | rfl <;> first | decide | (exfalso; revert c_9; decide) | (exfalso; revert c_23; decide) | (exfalso; revert c_38; decide) | (exfalso; revert c_52; decide) | (exfalso; revert c_64; decide)
        · refine wx_iinc (lv' := [(1, _), (0, _)]) dJ6_numberOfTrailingZeros_0f7a4_55 rfl rfl (by decide) rfl ?_
          refine wx_iload_n dJ6_numberOfTrailingZeros_0f7a4_58 rfl ?_
          refine wx_iconst (v := 4) dJ6_numberOfTrailingZeros_0f7a4_59 (by decide) ?_
          refine wx_iushr dJ6_numberOfTrailingZeros_0f7a4_60 ?_
          refine wx_istore_n (lv' := [(0, _), (1, _)]) dJ6_numberOfTrailingZeros_0f7a4_61 (by decide) rfl ?_
          refine wx_iload_n dJ6_numberOfTrailingZeros_0f7a4_62 rfl ?_
          refine wx_iconst (v := 4) dJ6_numberOfTrailingZeros_0f7a4_63 (by decide) ?_
          refine wx_icmp_le (tgt := 74) dJ6_numberOfTrailingZeros_0f7a4_64 (by decide) (fun c_64 => ?_) (fun c_64 => ?_)
          · refine wx_iload_n dJ6_numberOfTrailingZeros_0f7a4_74 rfl ?_
            refine wx_iload_n dJ6_numberOfTrailingZeros_0f7a4_75 rfl ?_
            refine wx_iconst (v := 1) dJ6_numberOfTrailingZeros_0f7a4_76 (by decide) ?_
            refine wx_iushr dJ6_numberOfTrailingZeros_0f7a4_77 ?_
            refine wx_iadd dJ6_numberOfTrailingZeros_0f7a4_78 ?_
            refine wx_iret dJ6_numberOfTrailingZeros_0f7a4_79 (Nat.zero_le _) (Nat.zero_le _) ?_
            refine ⟨?_, rfl, rfl, rfl, rfl, rfl⟩
            rcases (show t = 0 ∨ t = 1 ∨ t = 2 ∨ t = 3 ∨ t = 4 ∨ t = 5 ∨ t = 6 ∨ t = 7 ∨ t = 8 ∨ t = 9 ∨ t = 10 ∨ t = 11 by omega) with rfl | rfl | rfl | rfl | rfl | rfl | rfl | rfl | rfl | rfl | rfl | rfl <;> first | decide | (exfalso; revert c_9; decide) | (exfalso; revert c_23; decide) | (exfalso; revert c_38; decide) | (exfalso; revert c_52; decide) | (exfalso; revert c_64; decide)
          · refine wx_iinc (lv' := [(1, _), (0, _)]) dJ6_numberOfTrailingZeros_0f7a4_67 rfl rfl (by decide) rfl ?_
            refine wx_iload_n dJ6_numberOfTrailingZeros_0f7a4_70 rfl ?_
            refine wx_iconst (v := 2) dJ6_numberOfTrailingZeros_0f7a4_71 (by decide) ?_
            refine wx_iushr dJ6_numberOfTrailingZeros_0f7a4_72 ?_
            refine wx_istore_n (lv' := [(0, _), (1, _)]) dJ6_numberOfTrailingZeros_0f7a4_73 (by decide) rfl ?_
            refine wx_iload_n dJ6_numberOfTrailingZeros_0f7a4_74 rfl ?_
            refine wx_iload_n dJ6_numberOfTrailingZeros_0f7a4_75 rfl ?_
            refine wx_iconst (v := 1) dJ6_numberOfTrailingZeros_0f7a4_76 (by decide) ?_
            refine wx_iushr dJ6_numberOfTrailingZeros_0f7a4_77 ?_
            refine wx_iadd dJ6_numberOfTrailingZeros_0f7a4_78 ?_
            refine wx_iret dJ6_numberOfTrailingZeros_0f7a4_79 (Nat.zero_le _) (Nat.zero_le _) ?_
            refine ⟨?_, rfl, rfl, rfl, rfl, rfl⟩
            rcases (show t = 0 ∨ t = 1 ∨ t = 2 ∨ t = 3 ∨ t = 4 ∨ t = 5 ∨ t = 6 ∨ t = 7 ∨ t = 8 ∨ t = 9 ∨ t = 10 ∨ t = 11 by omega) with rfl | rfl | rfl | rfl | rfl | rfl | rfl | rfl | rfl | rfl | rfl | rfl <;> first | decide | (exfalso; revert c_9; decide) | (exfalso; revert c_23; decide) | (exfalso; revert c_38; decide) | (exfalso; revert c_52; decide) | (exfalso; revert c_64; decide)
      · refine wx_iinc (lv' := [(1, _), (0, _)]) dJ6_numberOfTrailingZeros_0f7a4_41 rfl rfl (by decide) rfl ?_
        refine wx_iload_n dJ6_numberOfTrailingZeros_0f7a4_44 rfl ?_
        refine wx_bipush (v := 8) dJ6_numberOfTrailingZeros_0f7a4_45 (by decide) ?_
        refine wx_iushr dJ6_numberOfTrailingZeros_0f7a4_47 ?_
        refine wx_istore_n (lv' := [(0, _), (1, _)]) dJ6_numberOfTrailingZeros_0f7a4_48 (by decide) rfl ?_
        refine wx_iload_n dJ6_numberOfTrailingZeros_0f7a4_49 rfl ?_
        refine wx_bipush (v := 16) dJ6_numberOfTrailingZeros_0f7a4_50 (by decide) ?_
        refine wx_icmp_le (tgt := 62) dJ6_numberOfTrailingZeros_0f7a4_52 (by decide) (fun c_52 => ?_) (fun c_52 => ?_)
        · refine wx_iload_n dJ6_numberOfTrailingZeros_0f7a4_62 rfl ?_
          refine wx_iconst (v := 4) dJ6_numberOfTrailingZeros_0f7a4_63 (by decide) ?_
          refine wx_icmp_le (tgt := 74) dJ6_numberOfTrailingZeros_0f7a4_64 (by decide) (fun c_64 => ?_) (fun c_64 => ?_)
          · refine wx_iload_n dJ6_numberOfTrailingZeros_0f7a4_74 rfl ?_
            refine wx_iload_n dJ6_numberOfTrailingZeros_0f7a4_75 rfl ?_
            refine wx_iconst (v := 1) dJ6_numberOfTrailingZeros_0f7a4_76 (by decide) ?_
            refine wx_iushr dJ6_numberOfTrailingZeros_0f7a4_77 ?_
            refine wx_iadd dJ6_numberOfTrailingZeros_0f7a4_78 ?_
            refine wx_iret dJ6_numberOfTrailingZeros_0f7a4_79 (Nat.zero_le _) (Nat.zero_le _) ?_
            refine ⟨?_, rfl, rfl, rfl, rfl, rfl⟩
            rcases (show t = 0 ∨ t = 1 ∨ t = 2 ∨ t = 3 ∨ t = 4 ∨ t = 5 ∨ t = 6 ∨ t = 7 ∨ t = 8 ∨ t = 9 ∨ t = 10 ∨ t = 11 by omega) with rfl | rfl | rfl | rfl | rfl | rfl | rfl | rfl | rfl | rfl | rfl | rfl <;> first | decide | (exfalso; revert c_9; decide) | (exfalso; revert c_23; decide) | (exfalso; revert c_38; decide) | (exfalso; revert c_52; decide) | (exfalso; revert c_64; decide)
          · refine wx_iinc (lv' := [(1, _), (0, _)]) dJ6_numberOfTrailingZeros_0f7a4_67 rfl rfl (by decide) rfl ?_
            refine wx_iload_n dJ6_numberOfTrailingZeros_0f7a4_70 rfl ?_
            refine wx_iconst (v := 2) dJ6_numberOfTrailingZeros_0f7a4_71 (by decide) ?_
            refine wx_iushr dJ6_numberOfTrailingZeros_0f7a4_72 ?_
            refine wx_istore_n (lv' := [(0, _), (1, _)]) dJ6_numberOfTrailingZeros_0f7a4_73 (by decide) rfl ?_
            refine wx_iload_n dJ6_numberOfTrailingZeros_0f7a4_74 rfl ?_
            refine wx_iload_n dJ6_numberOfTrailingZeros_0f7a4_75 rfl ?_
            refine wx_iconst (v := 1) dJ6_numberOfTrailingZeros_0f7a4_76 (by decide) ?_
            refine wx_iushr dJ6_numberOfTrailingZeros_0f7a4_77 ?_
            refine wx_iadd dJ6_numberOfTrailingZeros_0f7a4_78 ?_
            refine wx_iret dJ6_numberOfTrailingZeros_0f7a4_79 (Nat.zero_le _) (Nat.zero_le _) ?_
            refine ⟨?_, rfl, rfl, rfl, rfl, rfl⟩
            rcases (show t = 0 ∨ t = 1 ∨ t = 2 ∨ t = 3 ∨ t = 4 ∨ t = 5 ∨ t = 6 ∨ t = 7 ∨ t = 8 ∨ t = 9 ∨ t = 10 ∨ t = 11 by omega) with rfl | rfl | rfl | rfl | rfl | rfl | rfl | rfl | rfl | rfl | rfl | rfl <;> first | decide | (exfalso; revert c_9; decide) | (exfalso; revert c_23; decide) | (exfalso; revert c_38; decide) | (exfalso; revert c_52; decide) | (exfalso; revert c_64; decide)
        · refine wx_iinc (lv' := [(1, _), (0, _)]) dJ6_numberOfTrailingZeros_0f7a4_55 rfl rfl (by decide) rfl ?_
          refine wx_iload_n dJ6_numberOfTrailingZeros_0f7a4_58 rfl ?_
          refine wx_iconst (v := 4) dJ6_numberOfTrailingZeros_0f7a4_59 (by decide) ?_
          refine wx_iushr dJ6_numberOfTrailingZeros_0f7a4_60 ?_
          refine wx_istore_n (lv' := [(0, _), (1, _)]) dJ6_numberOfTrailingZeros_0f7a4_61 (by decide) rfl ?_
          refine wx_iload_n dJ6_numberOfTrailingZeros_0f7a4_62 rfl ?_
          refine wx_iconst (v := 4) dJ6_numberOfTrailingZeros_0f7a4_63 (by decide) ?_
          refine wx_icmp_le (tgt := 74) dJ6_numberOfTrailingZeros_0f7a4_64 (by decide) (fun c_64 => ?_) (fun c_64 => ?_)
          · refine wx_iload_n dJ6_numberOfTrailingZeros_0f7a4_74 rfl ?_
            refine wx_iload_n dJ6_numberOfTrailingZeros_0f7a4_75 rfl ?_
            refine wx_iconst (v := 1) dJ6_numberOfTrailingZeros_0f7a4_76 (by decide) ?_
            refine wx_iushr dJ6_numberOfTrailingZeros_0f7a4_77 ?_
            refine wx_iadd dJ6_numberOfTrailingZeros_0f7a4_78 ?_
            refine wx_iret dJ6_numberOfTrailingZeros_0f7a4_79 (Nat.zero_le _) (Nat.zero_le _) ?_
            refine ⟨?_, rfl, rfl, rfl, rfl, rfl⟩
            rcases (show t = 0 ∨ t = 1 ∨ t = 2 ∨ t = 3 ∨ t = 4 ∨ t = 5 ∨ t = 6 ∨ t = 7 ∨ t = 8 ∨ t = 9 ∨ t = 10 ∨ t = 11 by omega) with rfl | rfl | rfl | rfl | rfl | rfl | rfl | rfl | rfl | rfl | rfl | rfl <;> first | decide | (exfalso; revert c_9; decide) | (exfalso; revert c_23; decide) | (exfalso; revert c_38; decide) | (exfalso; revert c_52; decide) | (exfalso; revert c_64; decide)
          · refine wx_iinc (lv' := [(1, _), (0, _)]) dJ6_numberOfTrailingZeros_0f7a4_67 rfl rfl (by decide) rfl ?_
            refine wx_iload_n dJ6_numberOfTrailingZeros_0f7a4_70 rfl ?_
            refine wx_iconst (v := 2) dJ6_numberOfTrailingZeros_0f7a4_71 (by decide) ?_
            refine wx_iushr dJ6_numberOfTrailingZeros_0f7a4_72 ?_
            refine wx_istore_n (lv' := [(0, _), (1, _)]) dJ6_numberOfTrailingZeros_0f7a4_73 (by decide) rfl ?_
            refine wx_iload_n dJ6_numberOfTrailingZeros_0f7a4_74 rfl ?_
            refine wx_iload_n dJ6_numberOfTrailingZeros_0f7a4_75 rfl ?_
            refine wx_iconst (v := 1) dJ6_numberOfTrailingZeros_0f7a4_76 (by decide) ?_
            refine wx_iushr dJ6_numberOfTrailingZeros_0f7a4_77 ?_
            refine wx_iadd dJ6_numberOfTrailingZeros_0f7a4_78 ?_
            refine wx_iret dJ6_numberOfTrailingZeros_0f7a4_79 (Nat.zero_le _) (Nat.zero_le _) ?_
            refine ⟨?_, rfl, rfl, rfl, rfl, rfl⟩
            rcases (show t = 0 ∨ t = 1 ∨ t = 2 ∨ t = 3 ∨ t = 4 ∨ t = 5 ∨ t = 6 ∨ t = 7 ∨ t = 8 ∨ t = 9 ∨ t = 10 ∨ t = 11 by omega) with rfl | rfl | rfl | rfl | rfl | rfl | rfl | rfl | rfl | rfl | rfl | rfl <;> first | decide | (exfalso; revert c_9; decide) | (exfalso; revert c_23; decide) | (exfalso; revert c_38; decide) | (exfalso; revert c_52; decide) | (exfalso; revert c_64; decide)
  · refine wx_iload_n dJ6_numberOfTrailingZeros_0f7a4_12 rfl ?_
    refine wx_bipush (v := 32) dJ6_numberOfTrailingZeros_0f7a4_13 (by decide) ?_
    refine wx_iand dJ6_numberOfTrailingZeros_0f7a4_15 ?_
    refine wx_iret dJ6_numberOfTrailingZeros_0f7a4_16 (Nat.zero_le _) (Nat.zero_le _) ?_
    refine ⟨?_, rfl, rfl, rfl, rfl, rfl⟩
    rcases (show t = 0 ∨ t = 1 ∨ t = 2 ∨ t = 3 ∨ t = 4 ∨ t = 5 ∨ t = 6 ∨ t = 7 ∨ t = 8 ∨ t = 9 ∨ t = 10 ∨ t = 11 by omega) with rfl | rfl | rfl | rfl | rfl | rfl | rfl | rfl | rfl | rfl | rfl | rfl <;> first | decide | (exfalso; revert c_9; decide) | (exfalso; revert c_23; decide) | (exfalso; revert c_38; decide) | (exfalso; revert c_52; decide) | (exfalso; revert c_64; decide)
theorem m_X2_evenCrease {d : Nat} {X : Nat × (Nat → Int32)} {sh : px_Sh} {M : px_M} {L : px_L} {R : px_R} {n : Nat} (p : Int32) : MX yX2_evenCrease cX2_evenCrease 1 (some .int) d 0 0 X [.int p] sh M L R n (px_pu (some (.int (if p - p / 2 * 2 = 0 then p else p - 1))) sh M L R n) := by
  refine MX.of (by decide +kernel) (by exact Nat.le_of_ble_eq_true rfl) ?_
  refine wx_iload_n dX2_evenCrease_0 rfl ?_
  refine wx_iconst (v := 2) dX2_evenCrease_1 (by decide) ?_
  refine wx_irem dX2_evenCrease_2 (by decide) ?_
  refine wx_if_ne (tgt := 10) dX2_evenCrease_3 (by decide) (fun c_3 => ?_) (fun c_3 => ?_)
  · refine wx_iload_n dX2_evenCrease_10 rfl ?_
    refine wx_iconst (v := 1) dX2_evenCrease_11 (by decide) ?_
    refine wx_isub dX2_evenCrease_12 ?_
    refine wx_iret dX2_evenCrease_13 (Nat.zero_le _) (Nat.zero_le _) ?_
    exact ⟨by (repeat' split) <;> first | rfl | contradiction | grind | simp_all, rfl, rfl, rfl, rfl, rfl⟩
  · refine wx_iload_n dX2_evenCrease_6 rfl ?_
    refine wx_goto (tgt := 13) dX2_evenCrease_7 (by decide) ?_
    refine wx_iret dX2_evenCrease_13 (Nat.zero_le _) (Nat.zero_le _) ?_
    exact ⟨by (repeat' split) <;> first | rfl | contradiction | grind | simp_all, rfl, rfl, rfl, rfl, rfl⟩
theorem m_X2_oddCrease {d : Nat} {X : Nat × (Nat → Int32)} {sh : px_Sh} {M : px_M} {L : px_L} {R : px_R} {n : Nat} (p : Int32) : MX yX2_oddCrease cX2_oddCrease 1 (some .int) d 0 0 X [.int p] sh M L R n (px_pu (some (.int (if p - p / 2 * 2 = 0 then p - 1 else p))) sh M L R n) := by
  refine MX.of (by decide +kernel) (by exact Nat.le_of_ble_eq_true rfl) ?_
  refine wx_iload_n dX2_oddCrease_0 rfl ?_
  refine wx_iconst (v := 2) dX2_oddCrease_1 (by decide) ?_
  refine wx_irem dX2_oddCrease_2 (by decide) ?_
  refine wx_if_ne (tgt := 12) dX2_oddCrease_3 (by decide) (fun c_3 => ?_) (fun c_3 => ?_)
  · refine wx_iload_n dX2_oddCrease_12 rfl ?_
    refine wx_iret dX2_oddCrease_13 (Nat.zero_le _) (Nat.zero_le _) ?_
    exact ⟨by (repeat' split) <;> first | rfl | contradiction | grind | simp_all, rfl, rfl, rfl, rfl, rfl⟩
  · refine wx_iload_n dX2_oddCrease_6 rfl ?_
    refine wx_iconst (v := 1) dX2_oddCrease_7 (by decide) ?_
    refine wx_isub dX2_oddCrease_8 ?_
    refine wx_goto (tgt := 13) dX2_oddCrease_9 (by decide) ?_
    refine wx_iret dX2_oddCrease_13 (Nat.zero_le _) (Nat.zero_le _) ?_
    exact ⟨by (repeat' split) <;> first | rfl | contradiction | grind | simp_all, rfl, rfl, rfl, rfl, rfl⟩
theorem m_X2_rises {d : Nat} {X : Nat × (Nat → Int32)} {sh : px_Sh} {M : px_M} {L : px_L} {R : px_R} {n : Nat} (hS : SR sh R) (c : Int32) : MX yX2_rises cX2_rises 3 (some .boolean) d 0 0 X [.ref 1, .int c] sh M L R n (px_pu (some (.int (if ((M 1 1 >>> (c &&& 31)) &&& 1 = 1) = (c - c / 2 * 2 = 0) then 1 else 0))) sh M L R n) := by
  refine MX.of (by decide +kernel) (by exact Nat.le_of_ble_eq_true rfl) ?_
  refine wx_aload_n dX2_rises_0 rfl ?_
  refine wx_getI dX2_rises_1 fl_X2_28 (sc_1 hS) rfl ?_
  refine wx_iload_n dX2_rises_4 rfl ?_
  refine wx_ishr dX2_rises_5 ?_
  refine wx_iconst (v := 1) dX2_rises_6 (by decide) ?_
  refine wx_iand dX2_rises_7 ?_
  refine wx_iconst (v := 1) dX2_rises_8 (by decide) ?_
  refine wx_icmp_ne (tgt := 16) dX2_rises_9 (by decide) (fun c_9 => ?_) (fun c_9 => ?_)
  · refine wx_iconst (v := 0) dX2_rises_16 (by decide) ?_
    refine wx_istore_n (lv' := [(2, _), (0, _), (1, _)]) dX2_rises_17 (by decide) rfl ?_
    refine wx_iload_n dX2_rises_18 rfl ?_
    refine wx_iload_n dX2_rises_19 rfl ?_
    refine wx_iconst (v := 2) dX2_rises_20 (by decide) ?_
    refine wx_irem dX2_rises_21 (by decide) ?_
    refine wx_if_ne (tgt := 29) dX2_rises_22 (by decide) (fun c_22 => ?_) (fun c_22 => ?_)
    · refine wx_iconst (v := 0) dX2_rises_29 (by decide) ?_
      refine wx_icmp_ne (tgt := 37) dX2_rises_30 (by decide) (fun c_30 => ?_) (fun c_30 => ?_)
      · refine wx_iconst (v := 0) dX2_rises_37 (by decide) ?_
        refine wx_zret dX2_rises_38 rfl (Nat.zero_le _) (Nat.zero_le _) ?_
        exact ⟨by (repeat' split) <;> first | rfl | contradiction | grind | simp_all, rfl, rfl, rfl, rfl, rfl⟩
      · refine wx_iconst (v := 1) dX2_rises_33 (by decide) ?_
        refine wx_goto (tgt := 38) dX2_rises_34 (by decide) ?_
        refine wx_zret dX2_rises_38 rfl (Nat.zero_le _) (Nat.zero_le _) ?_
        exact ⟨by (repeat' split) <;> first | rfl | contradiction | grind | simp_all, rfl, rfl, rfl, rfl, rfl⟩
    · refine wx_iconst (v := 1) dX2_rises_25 (by decide) ?_
      refine wx_goto (tgt := 30) dX2_rises_26 (by decide) ?_
      refine wx_icmp_ne (tgt := 37) dX2_rises_30 (by decide) (fun c_30 => ?_) (fun c_30 => ?_)
      · refine wx_iconst (v := 0) dX2_rises_37 (by decide) ?_
        refine wx_zret dX2_rises_38 rfl (Nat.zero_le _) (Nat.zero_le _) ?_
        exact ⟨by (repeat' split) <;> first | rfl | contradiction | grind | simp_all, rfl, rfl, rfl, rfl, rfl⟩
      · refine wx_iconst (v := 1) dX2_rises_33 (by decide) ?_
        refine wx_goto (tgt := 38) dX2_rises_34 (by decide) ?_
        refine wx_zret dX2_rises_38 rfl (Nat.zero_le _) (Nat.zero_le _) ?_
        exact ⟨by (repeat' split) <;> first | rfl | contradiction | grind | simp_all, rfl, rfl, rfl, rfl, rfl⟩
  · refine wx_iconst (v := 1) dX2_rises_12 (by decide) ?_
    refine wx_goto (tgt := 17) dX2_rises_13 (by decide) ?_
    refine wx_istore_n (lv' := [(2, _), (0, _), (1, _)]) dX2_rises_17 (by decide) rfl ?_
    refine wx_iload_n dX2_rises_18 rfl ?_
    refine wx_iload_n dX2_rises_19 rfl ?_
    refine wx_iconst (v := 2) dX2_rises_20 (by decide) ?_
    refine wx_irem dX2_rises_21 (by decide) ?_
    refine wx_if_ne (tgt := 29) dX2_rises_22 (by decide) (fun c_22 => ?_) (fun c_22 => ?_)
    · refine wx_iconst (v := 0) dX2_rises_29 (by decide) ?_
      refine wx_icmp_ne (tgt := 37) dX2_rises_30 (by decide) (fun c_30 => ?_) (fun c_30 => ?_)
      · refine wx_iconst (v := 0) dX2_rises_37 (by decide) ?_
        refine wx_zret dX2_rises_38 rfl (Nat.zero_le _) (Nat.zero_le _) ?_
        exact ⟨by (repeat' split) <;> first | rfl | contradiction | grind | simp_all, rfl, rfl, rfl, rfl, rfl⟩
      · refine wx_iconst (v := 1) dX2_rises_33 (by decide) ?_
        refine wx_goto (tgt := 38) dX2_rises_34 (by decide) ?_
        refine wx_zret dX2_rises_38 rfl (Nat.zero_le _) (Nat.zero_le _) ?_
        exact ⟨by (repeat' split) <;> first | rfl | contradiction | grind | simp_all, rfl, rfl, rfl, rfl, rfl⟩
    · refine wx_iconst (v := 1) dX2_rises_25 (by decide) ?_
      refine wx_goto (tgt := 30) dX2_rises_26 (by decide) ?_
      refine wx_icmp_ne (tgt := 37) dX2_rises_30 (by decide) (fun c_30 => ?_) (fun c_30 => ?_)
      · refine wx_iconst (v := 0) dX2_rises_37 (by decide) ?_
        refine wx_zret dX2_rises_38 rfl (Nat.zero_le _) (Nat.zero_le _) ?_
        exact ⟨by (repeat' split) <;> first | rfl | contradiction | grind | simp_all, rfl, rfl, rfl, rfl, rfl⟩
      · refine wx_iconst (v := 1) dX2_rises_33 (by decide) ?_
        refine wx_goto (tgt := 38) dX2_rises_34 (by decide) ?_
        refine wx_zret dX2_rises_38 rfl (Nat.zero_le _) (Nat.zero_le _) ?_
        exact ⟨by (repeat' split) <;> first | rfl | contradiction | grind | simp_all, rfl, rfl, rfl, rfl, rfl⟩
theorem m_X2_isOpen {d : Nat} {X : Nat × (Nat → Int32)} {sh : px_Sh} {M : px_M} {L : px_L} {R : px_R} {n : Nat} (c b : Int32) : MX yX2_isOpen cX2_isOpen 3 (some .boolean) d 0 0 X [.ref 1, .int c, .int b] sh M L R n (px_pu (some (.int (if (b >>> (c &&& 31)) &&& 1 = 1 then 1 else 0))) sh M L R n) := by
  refine MX.of (by decide +kernel) (by exact Nat.le_of_ble_eq_true rfl) ?_
  refine wx_iload_n dX2_isOpen_0 rfl ?_
  refine wx_iload_n dX2_isOpen_1 rfl ?_
  refine wx_ishr dX2_isOpen_2 ?_
  refine wx_iconst (v := 1) dX2_isOpen_3 (by decide) ?_
  refine wx_iand dX2_isOpen_4 ?_
  refine wx_iconst (v := 1) dX2_isOpen_5 (by decide) ?_
  refine wx_icmp_ne (tgt := 13) dX2_isOpen_6 (by decide) (fun c_6 => ?_) (fun c_6 => ?_)
  · refine wx_iconst (v := 0) dX2_isOpen_13 (by decide) ?_
    refine wx_zret dX2_isOpen_14 rfl (Nat.zero_le _) (Nat.zero_le _) ?_
    exact ⟨by (repeat' split) <;> first | rfl | contradiction | grind | simp_all, rfl, rfl, rfl, rfl, rfl⟩
  · refine wx_iconst (v := 1) dX2_isOpen_9 (by decide) ?_
    refine wx_goto (tgt := 14) dX2_isOpen_10 (by decide) ?_
    refine wx_zret dX2_isOpen_14 rfl (Nat.zero_le _) (Nat.zero_le _) ?_
    exact ⟨by (repeat' split) <;> first | rfl | contradiction | grind | simp_all, rfl, rfl, rfl, rfl, rfl⟩
theorem m_X11_isSlant {d : Nat} {X : Nat × (Nat → Int32)} {sh : px_Sh} {M : px_M} {L : px_L} {R : px_R} {n : Nat} (hd : 1 ≤ d) (s : Int32) : MX yX11_isSlant cX11_isSlant 1 (some .boolean) d 0 0 X [.int s] sh M L R n (px_pu (some (.int (if -8 ≤ s ∧ s ≤ 8 then 1 else 0))) sh M L R n) := by
  refine MX.of (by decide +kernel) (by exact Nat.le_of_ble_eq_true rfl) ?_
  refine wx_iload_n dX11_isSlant_0 rfl ?_
  refine wx_bipush (v := (-8)) dX11_isSlant_1 (by decide) ?_
  refine wx_bipush (v := 8) dX11_isSlant_3 (by decide) ?_
  refine wx_callSpi dX11_isSlant_5 ml_X11_65 my_X11_within sv_X11_within (m_X11_within (d := d - 1) _ _ _) rfl (by omega) (by exact Nat.le_of_ble_eq_true rfl) (Nat.zero_le _) (Nat.zero_le _) ?_
  refine wx_zret dX11_isSlant_8 px_nb (Nat.zero_le _) (Nat.zero_le _) ?_
  exact ⟨rfl, rfl, rfl, rfl, rfl, rfl⟩
theorem m_X11_isSpot {d : Nat} {X : Nat × (Nat → Int32)} {sh : px_Sh} {M : px_M} {L : px_L} {R : px_R} {n : Nat} (hd : 1 ≤ d) (x y : Int32) : MX yX11_isSpot cX11_isSpot 2 (some .boolean) d 0 0 X [.int x, .int y] sh M L R n (px_pu (some (.int (if (-20 ≤ x ∧ x ≤ 20) ∧ (-20 ≤ y ∧ y ≤ 20) then 1 else 0))) sh M L R n) := by
  refine MX.of (by decide +kernel) (by exact Nat.le_of_ble_eq_true rfl) ?_
  refine wx_iload_n dX11_isSpot_0 rfl ?_
  refine wx_bipush (v := (-20)) dX11_isSpot_1 (by decide) ?_
  refine wx_bipush (v := 20) dX11_isSpot_3 (by decide) ?_
  refine wx_callSpi dX11_isSpot_5 ml_X11_65 my_X11_within sv_X11_within (m_X11_within (d := d - 1) _ _ _) rfl (by omega) (by exact Nat.le_of_ble_eq_true rfl) (Nat.zero_le _) (Nat.zero_le _) ?_
  refine wx_if_eq (tgt := 26) dX11_isSpot_8 (by decide) (fun c_8 => ?_) (fun c_8 => ?_)
  · refine wx_iconst (v := 0) dX11_isSpot_26 (by decide) ?_
    refine wx_zret dX11_isSpot_27 rfl (Nat.zero_le _) (Nat.zero_le _) ?_
    exact ⟨by (repeat' split) <;> first | rfl | contradiction | grind | simp_all, rfl, rfl, rfl, rfl, rfl⟩
  · refine wx_iload_n dX11_isSpot_11 rfl ?_
    refine wx_bipush (v := (-20)) dX11_isSpot_12 (by decide) ?_
    refine wx_bipush (v := 20) dX11_isSpot_14 (by decide) ?_
    refine wx_callSpi dX11_isSpot_16 ml_X11_65 my_X11_within sv_X11_within (m_X11_within (d := d - 1) _ _ _) rfl (by omega) (by exact Nat.le_of_ble_eq_true rfl) (Nat.zero_le _) (Nat.zero_le _) ?_
    refine wx_if_eq (tgt := 26) dX11_isSpot_19 (by decide) (fun c_19 => ?_) (fun c_19 => ?_)
    · refine wx_iconst (v := 0) dX11_isSpot_26 (by decide) ?_
      refine wx_zret dX11_isSpot_27 rfl (Nat.zero_le _) (Nat.zero_le _) ?_
      exact ⟨by (repeat' split) <;> first | rfl | contradiction | grind | simp_all, rfl, rfl, rfl, rfl, rfl⟩
    · refine wx_iconst (v := 1) dX11_isSpot_22 (by decide) ?_
      refine wx_goto (tgt := 27) dX11_isSpot_23 (by decide) ?_
      refine wx_zret dX11_isSpot_27 rfl (Nat.zero_le _) (Nat.zero_le _) ?_
      exact ⟨by (repeat' split) <;> first | rfl | contradiction | grind | simp_all, rfl, rfl, rfl, rfl, rfl⟩
theorem m_X11_isCoat {d : Nat} {X : Nat × (Nat → Int32)} {sh : px_Sh} {M : px_M} {L : px_L} {R : px_R} {n : Nat} (hd : 1 ≤ d) (b k : Int32) : MX yX11_isCoat cX11_isCoat 2 (some .boolean) d 0 0 X [.int b, .int k] sh M L R n (px_pu (some (.int (if (0 ≤ b ∧ b ≤ 100) ∧ (0 ≤ k ∧ k ≤ 100) ∧ b + k ≤ 100 then 1 else 0))) sh M L R n) := by
  refine MX.of (by decide +kernel) (by exact Nat.le_of_ble_eq_true rfl) ?_
  refine wx_iload_n dX11_isCoat_0 rfl ?_
  refine wx_iconst (v := 0) dX11_isCoat_1 (by decide) ?_
  refine wx_bipush (v := 100) dX11_isCoat_2 (by decide) ?_
  refine wx_callSpi dX11_isCoat_4 ml_X11_65 my_X11_within sv_X11_within (m_X11_within (d := d - 1) _ _ _) rfl (by omega) (by exact Nat.le_of_ble_eq_true rfl) (Nat.zero_le _) (Nat.zero_le _) ?_
  refine wx_if_eq (tgt := 32) dX11_isCoat_7 (by decide) (fun c_7 => ?_) (fun c_7 => ?_)
  · refine wx_iconst (v := 0) dX11_isCoat_32 (by decide) ?_
    refine wx_zret dX11_isCoat_33 rfl (Nat.zero_le _) (Nat.zero_le _) ?_
    exact ⟨by (repeat' split) <;> first | rfl | contradiction | grind | simp_all, rfl, rfl, rfl, rfl, rfl⟩
  · refine wx_iload_n dX11_isCoat_10 rfl ?_
    refine wx_iconst (v := 0) dX11_isCoat_11 (by decide) ?_
    refine wx_bipush (v := 100) dX11_isCoat_12 (by decide) ?_
    refine wx_callSpi dX11_isCoat_14 ml_X11_65 my_X11_within sv_X11_within (m_X11_within (d := d - 1) _ _ _) rfl (by omega) (by exact Nat.le_of_ble_eq_true rfl) (Nat.zero_le _) (Nat.zero_le _) ?_
    refine wx_if_eq (tgt := 32) dX11_isCoat_17 (by decide) (fun c_17 => ?_) (fun c_17 => ?_)
    · refine wx_iconst (v := 0) dX11_isCoat_32 (by decide) ?_
      refine wx_zret dX11_isCoat_33 rfl (Nat.zero_le _) (Nat.zero_le _) ?_
      exact ⟨by (repeat' split) <;> first | rfl | contradiction | grind | simp_all, rfl, rfl, rfl, rfl, rfl⟩
    · refine wx_iload_n dX11_isCoat_20 rfl ?_
      refine wx_iload_n dX11_isCoat_21 rfl ?_
      refine wx_iadd dX11_isCoat_22 ?_
      refine wx_bipush (v := 100) dX11_isCoat_23 (by decide) ?_
      refine wx_icmp_gt (tgt := 32) dX11_isCoat_25 (by decide) (fun c_25 => ?_) (fun c_25 => ?_)
      · refine wx_iconst (v := 0) dX11_isCoat_32 (by decide) ?_
        refine wx_zret dX11_isCoat_33 rfl (Nat.zero_le _) (Nat.zero_le _) ?_
        exact ⟨by (repeat' split) <;> first | rfl | contradiction | grind | simp_all, rfl, rfl, rfl, rfl, rfl⟩
      · refine wx_iconst (v := 1) dX11_isCoat_28 (by decide) ?_
        refine wx_goto (tgt := 33) dX11_isCoat_29 (by decide) ?_
        refine wx_zret dX11_isCoat_33 rfl (Nat.zero_le _) (Nat.zero_le _) ?_
        exact ⟨by (repeat' split) <;> first | rfl | contradiction | grind | simp_all, rfl, rfl, rfl, rfl, rfl⟩
theorem m_X11_turnOfDay {d : Nat} {X : Nat × (Nat → Int32)} {sh : px_Sh} {M : px_M} {L : px_L} {R : px_R} {n : Nat} (r : Int32) (hr : ¬ r + 32 = 0) : MX yX11_turnOfDay cX11_turnOfDay 1 (some .int) d 0 0 X [.int r] sh M L R n (px_pu (some (.int (1 + 320 / (r + 32)))) sh M L R n) := by
  refine MX.of (by decide +kernel) (by exact Nat.le_of_ble_eq_true rfl) ?_
  refine wx_iconst (v := 1) dX11_turnOfDay_0 (by decide) ?_
  refine wx_sipush (v := 320) dX11_turnOfDay_1 (by decide) ?_
  refine wx_iload_n dX11_turnOfDay_4 rfl ?_
  refine wx_bipush (v := 32) dX11_turnOfDay_5 (by decide) ?_
  refine wx_iadd dX11_turnOfDay_7 ?_
  refine wx_idiv dX11_turnOfDay_8 hr ?_
  refine wx_iadd dX11_turnOfDay_9 ?_
  refine wx_iret dX11_turnOfDay_10 (Nat.zero_le _) (Nat.zero_le _) ?_
  exact ⟨rfl, rfl, rfl, rfl, rfl, rfl⟩
theorem m_X11_stepsAt {d : Nat} {X : Nat × (Nat → Int32)} {sh : px_Sh} {M : px_M} {L : px_L} {R : px_R} {n : Nat} (r s : Int32) (hr : ¬ r + 32 = 0) : MX yX11_stepsAt cX11_stepsAt 2 (some .int) d 0 0 X [.int r, .int s] sh M L R n (px_pu (some (.int (1 + s * 32 / (r + 32)))) sh M L R n) := by
  refine MX.of (by decide +kernel) (by exact Nat.le_of_ble_eq_true rfl) ?_
  refine wx_iconst (v := 1) dX11_stepsAt_0 (by decide) ?_
  refine wx_iload_n dX11_stepsAt_1 rfl ?_
  refine wx_bipush (v := 32) dX11_stepsAt_2 (by decide) ?_
  refine wx_imul dX11_stepsAt_4 ?_
  refine wx_iload_n dX11_stepsAt_5 rfl ?_
  refine wx_bipush (v := 32) dX11_stepsAt_6 (by decide) ?_
  refine wx_iadd dX11_stepsAt_8 ?_
  refine wx_idiv dX11_stepsAt_9 hr ?_
  refine wx_iadd dX11_stepsAt_10 ?_
  refine wx_iret dX11_stepsAt_11 (Nat.zero_le _) (Nat.zero_le _) ?_
  exact ⟨rfl, rfl, rfl, rfl, rfl, rfl⟩
theorem m_X11_rhoBehind {d : Nat} {X : Nat × (Nat → Int32)} {sh : px_Sh} {M : px_M} {L : px_L} {R : px_R} {n : Nat} (hd : 1 ≤ d) (r st s : Int32) (hr : ¬ r + 32 = 0) : MX yX11_rhoBehind cX11_rhoBehind 3 (some .int) d 0 0 X [.int r, .int st, .int s] sh M L R n (px_pu (some (.int (r + (st - 1) * (1 + s * 32 / (r + 32))))) sh M L R n) := by
  refine MX.of (by decide +kernel) (by exact Nat.le_of_ble_eq_true rfl) ?_
  refine wx_iload_n dX11_rhoBehind_0 rfl ?_
  refine wx_iload_n dX11_rhoBehind_1 rfl ?_
  refine wx_iconst (v := 1) dX11_rhoBehind_2 (by decide) ?_
  refine wx_isub dX11_rhoBehind_3 ?_
  refine wx_iload_n dX11_rhoBehind_4 rfl ?_
  refine wx_iload_n dX11_rhoBehind_5 rfl ?_
  refine wx_callSpi dX11_rhoBehind_6 ml_X11_356 my_X11_stepsAt sv_X11_stepsAt (m_X11_stepsAt (d := d - 1) _ _ hr) rfl (by omega) (by exact Nat.le_of_ble_eq_true rfl) (Nat.zero_le _) (Nat.zero_le _) ?_
  refine wx_imul dX11_rhoBehind_9 ?_
  refine wx_iadd dX11_rhoBehind_10 ?_
  refine wx_iret dX11_rhoBehind_11 (Nat.zero_le _) (Nat.zero_le _) ?_
  exact ⟨rfl, rfl, rfl, rfl, rfl, rfl⟩
