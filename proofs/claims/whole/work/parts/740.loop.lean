/-! the law's loop -/
section LOOP
variable {X : Nat × (Nat → Int32)}
theorem law_lt (hX : X.1 ≤ 3072) {i : Nat} (hi : i ≤ 3072) (q : ¬ nI X.1 - 6 < nI i) : i + 5 < X.1 := by
  have h1 : (nI X.1 - 6).toInt = (X.1 : Int) - 6 := pk_sub_toInt (b := 6) (by omega) (by decide)
  have h2 := Int32.le_iff_toInt_le.mp (Int32.not_lt.mp q)
  rw [h1, nI_toInt (by omega)] at h2
  omega
theorem lc_at {sh : px_Sh} {M : px_M} {L : px_L} {R : px_R} {n cu su c i : Nat} (hI : IA c sh M L R n cu su) (hc : c + 1 ≤ 512) (hi : i + 5 < X.1) (hX : X.1 ≤ 3072) (G : ∀ sh2 M2 L2 R2 n2 cu2 su2, IA (c + 1) sh2 M2 L2 R2 n2 cu2 su2 → LW X 3016 (lv0 i) [] sh2 M2 L2 R2 n2 cu2 su2) (t : Nat) (ht : t < 46) : LW X 40 (lv0 i) [.int (nI t)] sh M L R n cu su := match t, ht with
  | 0, _ => wx_tsIn (off := 200) (tgt := 240) dL_law_40 (by decide) (by decide) rfl (by decide) (lcx_0 hI hc hi hX G)
  | 1, _ => wx_tsIn (off := 268) (tgt := 308) dL_law_40 (by decide) (by decide) rfl (by decide) (lcx_1 hI hc hi hX G)
  | 2, _ => wx_tsIn (off := 293) (tgt := 333) dL_law_40 (by decide) (by decide) rfl (by decide) (lcx_2 hI hc hi hX G)
  | 3, _ => wx_tsIn (off := 356) (tgt := 396) dL_law_40 (by decide) (by decide) rfl (by decide) (lcx_3 hI hc hi hX G)
  | 4, _ => wx_tsIn (off := 419) (tgt := 459) dL_law_40 (by decide) (by decide) rfl (by decide) (lcx_4 hI hc hi hX G)
  | 5, _ => wx_tsIn (off := 475) (tgt := 515) dL_law_40 (by decide) (by decide) rfl (by decide) (lcx_5 hI hc hi hX G)
  | 6, _ => wx_tsIn (off := 519) (tgt := 559) dL_law_40 (by decide) (by decide) rfl (by decide) (lcx_6 hI hc hi hX G)
  | 7, _ => wx_tsIn (off := 575) (tgt := 615) dL_law_40 (by decide) (by decide) rfl (by decide) (lcx_7 hI hc hi hX G)
  | 8, _ => wx_tsIn (off := 679) (tgt := 719) dL_law_40 (by decide) (by decide) rfl (by decide) (lcx_8 hI hc hi hX G)
  | 9, _ => wx_tsIn (off := 747) (tgt := 787) dL_law_40 (by decide) (by decide) rfl (by decide) (lcx_9 hI hc hi hX G)
  | 10, _ => wx_tsIn (off := 810) (tgt := 850) dL_law_40 (by decide) (by decide) rfl (by decide) (lcx_10 hI hc hi hX G)
  | 11, _ => wx_tsIn (off := 866) (tgt := 906) dL_law_40 (by decide) (by decide) rfl (by decide) (lcx_11 hI hc hi hX G)
  | 12, _ => wx_tsIn (off := 934) (tgt := 974) dL_law_40 (by decide) (by decide) rfl (by decide) (lcx_12 hI hc hi hX G)
  | 13, _ => wx_tsIn (off := 1025) (tgt := 1065) dL_law_40 (by decide) (by decide) rfl (by decide) (lcx_13 hI hc hi hX G)
  | 14, _ => wx_tsIn (off := 1073) (tgt := 1113) dL_law_40 (by decide) (by decide) rfl (by decide) (lcx_14 hI hc hi hX G)
  | 15, _ => wx_tsIn (off := 1141) (tgt := 1181) dL_law_40 (by decide) (by decide) rfl (by decide) (lcx_15 hI hc hi hX G)
  | 16, _ => wx_tsIn (off := 1209) (tgt := 1249) dL_law_40 (by decide) (by decide) rfl (by decide) (lcx_16 hI hc hi hX G)
  | 17, _ => wx_tsIn (off := 1277) (tgt := 1317) dL_law_40 (by decide) (by decide) rfl (by decide) (lcx_17 hI hc hi hX G)
  | 18, _ => wx_tsIn (off := 1357) (tgt := 1397) dL_law_40 (by decide) (by decide) rfl (by decide) (lcx_18 hI hc hi hX G)
  | 19, _ => wx_tsIn (off := 1425) (tgt := 1465) dL_law_40 (by decide) (by decide) rfl (by decide) (lcx_19 hI hc hi hX G)
  | 20, _ => wx_tsIn (off := 1493) (tgt := 1533) dL_law_40 (by decide) (by decide) rfl (by decide) (lcx_20 hI hc hi hX G)
  | 21, _ => wx_tsIn (off := 1549) (tgt := 1589) dL_law_40 (by decide) (by decide) rfl (by decide) (lcx_21 hI hc hi hX G)
  | 22, _ => wx_tsIn (off := 1622) (tgt := 1662) dL_law_40 (by decide) (by decide) rfl (by decide) (lcx_22 hI hc hi hX G)
  | 23, _ => wx_tsIn (off := 1678) (tgt := 1718) dL_law_40 (by decide) (by decide) rfl (by decide) (lcx_23 hI hc hi hX G)
  | 24, _ => wx_tsIn (off := 1691) (tgt := 1731) dL_law_40 (by decide) (by decide) rfl (by decide) (lcx_24 hI hc hi hX G)
  | 25, _ => wx_tsIn (off := 1704) (tgt := 1744) dL_law_40 (by decide) (by decide) rfl (by decide) (lcx_25 hI hc hi hX G)
  | 26, _ => wx_tsIn (off := 1772) (tgt := 1812) dL_law_40 (by decide) (by decide) rfl (by decide) (lcx_26 hI hc hi hX G)
  | 27, _ => wx_tsIn (off := 1828) (tgt := 1868) dL_law_40 (by decide) (by decide) rfl (by decide) (lcx_27 hI hc hi hX G)
  | 28, _ => wx_tsIn (off := 1896) (tgt := 1936) dL_law_40 (by decide) (by decide) rfl (by decide) (lcx_28 hI hc hi hX G)
  | 29, _ => wx_tsIn (off := 1964) (tgt := 2004) dL_law_40 (by decide) (by decide) rfl (by decide) (lcx_29 hI hc hi hX G)
  | 30, _ => wx_tsIn (off := 2044) (tgt := 2084) dL_law_40 (by decide) (by decide) rfl (by decide) (lcx_30 hI hc hi hX G)
  | 31, _ => wx_tsIn (off := 2100) (tgt := 2140) dL_law_40 (by decide) (by decide) rfl (by decide) (lcx_31 hI hc hi hX G)
  | 32, _ => wx_tsIn (off := 2168) (tgt := 2208) dL_law_40 (by decide) (by decide) rfl (by decide) (lcx_32 hI hc hi hX G)
  | 33, _ => wx_tsIn (off := 2224) (tgt := 2264) dL_law_40 (by decide) (by decide) rfl (by decide) (lcx_33 hI hc hi hX G)
  | 34, _ => wx_tsIn (off := 2320) (tgt := 2360) dL_law_40 (by decide) (by decide) rfl (by decide) (lcx_34 hI hc hi hX G)
  | 35, _ => wx_tsIn (off := 2380) (tgt := 2420) dL_law_40 (by decide) (by decide) rfl (by decide) (lcx_35 hI hc hi hX G)
  | 36, _ => wx_tsIn (off := 2448) (tgt := 2488) dL_law_40 (by decide) (by decide) rfl (by decide) (lcx_36 hI hc hi hX G)
  | 37, _ => wx_tsIn (off := 2461) (tgt := 2501) dL_law_40 (by decide) (by decide) rfl (by decide) (lcx_37 hI hc hi hX G)
  | 38, _ => wx_tsIn (off := 2524) (tgt := 2564) dL_law_40 (by decide) (by decide) rfl (by decide) (lcx_38 hI hc hi hX G)
  | 39, _ => wx_tsIn (off := 2587) (tgt := 2627) dL_law_40 (by decide) (by decide) rfl (by decide) (lcx_39 hI hc hi hX G)
  | 40, _ => wx_tsIn (off := 2642) (tgt := 2682) dL_law_40 (by decide) (by decide) rfl (by decide) (lcx_40 hI hc hi hX G)
  | 41, _ => wx_tsIn (off := 2655) (tgt := 2695) dL_law_40 (by decide) (by decide) rfl (by decide) (lcx_41 hI hc hi hX G)
  | 42, _ => wx_tsIn (off := 2747) (tgt := 2787) dL_law_40 (by decide) (by decide) rfl (by decide) (lcx_42 hI hc hi hX G)
  | 43, _ => wx_tsIn (off := 2827) (tgt := 2867) dL_law_40 (by decide) (by decide) rfl (by decide) (lcx_43 hI hc hi hX G)
  | 44, _ => wx_tsIn (off := 2895) (tgt := 2935) dL_law_40 (by decide) (by decide) rfl (by decide) (lcx_44 hI hc hi hX G)
  | 45, _ => wx_tsIn (off := 2951) (tgt := 2991) dL_law_40 (by decide) (by decide) rfl (by decide) (lcx_45 hI hc hi hX G)
  | t + 46, h => absurd h (by omega)
theorem law_loop (hX : X.1 ≤ 3072) : ∀ (k c : Nat) (sh : px_Sh) (M : px_M) (L : px_L) (R : px_R) (n cu su : Nat), c + k = 512 → IA c sh M L R n cu su → LW X 23 (lv0 (6 * c)) [] sh M L R n cu su := by
  intro k
  induction k with
  | zero =>
    intro c sh M L R n cu su hk hI
    have hr := hI.room (by omega)
    refine wx_iload dL_law_23 rfl ?_
    refine wx_xload_n dL_law_25 rfl ?_
    refine wx_scrlen dL_law_26 ?_
    refine wx_bipush (v := 6) dL_law_27 (by decide) ?_
    refine wx_isub dL_law_29 ?_
    refine wx_icmp_gt (tgt := 3022) dL_law_30 (by decide) (fun q => ?_) (fun q => ?_)
    · refine wx_iconst (v := 1) dL_law_3022 (by decide) ?_
      exact wl_end dL_law_3023 (by omega) (by omega)
    · exact absurd (law_lt hX (by omega) q) (by omega)
  | succ k ih =>
    intro c sh M L R n cu su hk hI
    have hr := hI.room (by omega)
    refine wx_iload dL_law_23 rfl ?_
    refine wx_xload_n dL_law_25 rfl ?_
    refine wx_scrlen dL_law_26 ?_
    refine wx_bipush (v := 6) dL_law_27 (by decide) ?_
    refine wx_isub dL_law_29 ?_
    refine wx_icmp_gt (tgt := 3022) dL_law_30 (by decide) (fun q => ?_) (fun q => ?_)
    · refine wx_iconst (v := 1) dL_law_3022 (by decide) ?_
      exact wl_end dL_law_3023 (by omega) (by omega)
    · have hlt := law_lt hX (by omega) q
      have G : ∀ sh2 M2 L2 R2 n2 cu2 su2, IA (c + 1) sh2 M2 L2 R2 n2 cu2 su2 → LW X 3016 (lv0 (6 * c)) [] sh2 M2 L2 R2 n2 cu2 su2 := fun sh2 M2 L2 R2 n2 cu2 su2 h2 => by
        refine wx_iinc (v := nI (6 * (c + 1))) (lv' := [(4, .int (nI (6 * (c + 1)))), (0, .retAddr 10), (1, .ref 0), (2, .ref 73), (3, .ref 219)]) dL_law_3016 rfl (nI_add (6 * c) 6) (by decide) rfl ?_
        refine wx_goto (tgt := 23) dL_law_3019 (by decide) ?_
        exact wx_sub (ih (c + 1) sh2 M2 L2 R2 n2 cu2 su2 (by omega) h2) (px_s rfl (px_s rfl (px_s rfl (px_s rfl (px_s rfl px_0)))))
      refine wx_xload_n dL_law_33 rfl ?_
      refine wx_iload dL_law_34 rfl ?_
      refine wx_scr dL_law_36 (ix_in (ix_k (show 6 * c < X.1 by omega) (by omega))) ?_
      refine wx_bipush (v := 63) dL_law_37 (by decide) ?_
      refine wx_iand dL_law_39 ?_
      obtain ⟨t, ht, e⟩ := pk_andE (X.2 (nI (6 * c)).toNatClampNeg) (m := 63) 6 (by decide)
      rw [e]
      by_cases h46 : t < 46
      · exact lc_at hI (by omega) (by omega) hX G t h46
      · refine wx_tsOut (tgt := 3016) dL_law_40 (Or.inr (by rw [nI_toInt (by omega)]; omega)) (by decide) ?_
        exact G _ _ _ _ _ _ _ (hI.no kp.rf kp.rf kp.rf (fun _ _ q => q) hI.1 (by omega) (by omega))
end LOOP
