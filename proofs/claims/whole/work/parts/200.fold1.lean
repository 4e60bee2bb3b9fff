/-! Folding: small methods -/
theorem px_ifs {c : Prop} [Decidable c] {x y : Int32} : (some (Value.int (if c then x else y)) : Option Value) = if c then some (.int x) else some (.int y) := by split <;> rfl
theorem m_X11_within {d : Nat} {X : Nat × (Nat → Int32)} {sh : px_Sh} {M : px_M} {L : px_L} {R : px_R} {n : Nat} (v lo hi : Int32) : MX yX11_within cX11_within 3 (some .boolean) d 0 0 X [.int v, .int lo, .int hi] sh M L R n (px_pu (some (.int (if lo ≤ v ∧ v ≤ hi then 1 else 0))) sh M L R n) := by
  refine MX.of (by decide) (by exact Nat.le_of_ble_eq_true rfl) ?_
  refine wx_iload_n dX11_within_0 rfl ?_
  refine wx_iload_n dX11_within_1 rfl ?_
  refine wx_icmp_lt (tgt := 14) dX11_within_2 (by decide) (fun c_2 => ?_) (fun c_2 => ?_)
  · refine wx_iconst (v := 0) dX11_within_14 (by decide) ?_
    refine wx_zret dX11_within_15 rfl (Nat.zero_le _) (Nat.zero_le _) ?_
    exact ⟨by simp_all [← Int32.not_le], rfl, rfl, rfl, rfl, rfl⟩
  · refine wx_iload_n dX11_within_5 rfl ?_
    refine wx_iload_n dX11_within_6 rfl ?_
    refine wx_icmp_gt (tgt := 14) dX11_within_7 (by decide) (fun c_7 => ?_) (fun c_7 => ?_)
    · refine wx_iconst (v := 0) dX11_within_14 (by decide) ?_
      refine wx_zret dX11_within_15 rfl (Nat.zero_le _) (Nat.zero_le _) ?_
      exact ⟨by simp_all [← Int32.not_le], rfl, rfl, rfl, rfl, rfl⟩
    · refine wx_iconst (v := 1) dX11_within_10 (by decide) ?_
      refine wx_goto (tgt := 15) dX11_within_11 (by decide) ?_
      refine wx_zret dX11_within_15 rfl (Nat.zero_le _) (Nat.zero_le _) ?_
      exact ⟨by simp_all [← Int32.not_le], rfl, rfl, rfl, rfl, rfl⟩
theorem m_X2_evenCrease {d : Nat} {X : Nat × (Nat → Int32)} {sh : px_Sh} {M : px_M} {L : px_L} {R : px_R} {n : Nat} (p : Int32) : MX yX2_evenCrease cX2_evenCrease 1 (some .int) d 0 0 X [.int p] sh M L R n (px_pu (some (.int (if p - p / 2 * 2 = 0 then p else p - 1))) sh M L R n) := by
  refine MX.of (by decide) (by exact Nat.le_of_ble_eq_true rfl) ?_
  refine wx_iload_n dX2_evenCrease_0 rfl ?_
  refine wx_iconst (v := 2) dX2_evenCrease_1 (by decide) ?_
  refine wx_irem dX2_evenCrease_2 (by decide) ?_
  refine wx_if_ne (tgt := 10) dX2_evenCrease_3 (by decide) (fun c_3 => ?_) (fun c_3 => ?_)
  · refine wx_iload_n dX2_evenCrease_10 rfl ?_
    refine wx_iconst (v := 1) dX2_evenCrease_11 (by decide) ?_
    refine wx_isub dX2_evenCrease_12 ?_
    refine wx_iret dX2_evenCrease_13 (Nat.zero_le _) (Nat.zero_le _) ?_
    exact ⟨by simp_all, rfl, rfl, rfl, rfl, rfl⟩
  · refine wx_iload_n dX2_evenCrease_6 rfl ?_
    refine wx_goto (tgt := 13) dX2_evenCrease_7 (by decide) ?_
    refine wx_iret dX2_evenCrease_13 (Nat.zero_le _) (Nat.zero_le _) ?_
    exact ⟨by simp_all, rfl, rfl, rfl, rfl, rfl⟩
theorem m_X2_oddCrease {d : Nat} {X : Nat × (Nat → Int32)} {sh : px_Sh} {M : px_M} {L : px_L} {R : px_R} {n : Nat} (p : Int32) : MX yX2_oddCrease cX2_oddCrease 1 (some .int) d 0 0 X [.int p] sh M L R n (px_pu (some (.int (if p - p / 2 * 2 = 0 then p - 1 else p))) sh M L R n) := by
  refine MX.of (by decide) (by exact Nat.le_of_ble_eq_true rfl) ?_
  refine wx_iload_n dX2_oddCrease_0 rfl ?_
  refine wx_iconst (v := 2) dX2_oddCrease_1 (by decide) ?_
  refine wx_irem dX2_oddCrease_2 (by decide) ?_
  refine wx_if_ne (tgt := 12) dX2_oddCrease_3 (by decide) (fun c_3 => ?_) (fun c_3 => ?_)
  · refine wx_iload_n dX2_oddCrease_12 rfl ?_
    refine wx_iret dX2_oddCrease_13 (Nat.zero_le _) (Nat.zero_le _) ?_
    exact ⟨by simp_all, rfl, rfl, rfl, rfl, rfl⟩
  · refine wx_iload_n dX2_oddCrease_6 rfl ?_
    refine wx_iconst (v := 1) dX2_oddCrease_7 (by decide) ?_
    refine wx_isub dX2_oddCrease_8 ?_
    refine wx_goto (tgt := 13) dX2_oddCrease_9 (by decide) ?_
    refine wx_iret dX2_oddCrease_13 (Nat.zero_le _) (Nat.zero_le _) ?_
    exact ⟨by simp_all, rfl, rfl, rfl, rfl, rfl⟩
theorem m_X2_rises {d : Nat} {X : Nat × (Nat → Int32)} {sh : px_Sh} {M : px_M} {L : px_L} {R : px_R} {n : Nat} (hS : SR sh R) (c : Int32) : MX yX2_rises cX2_rises 3 (some .boolean) d 0 0 X [.ref 1, .int c] sh M L R n (px_pu (some (.int (if ((M 1 1 >>> (c &&& 31)) &&& 1 = 1) = (c - c / 2 * 2 = 0) then 1 else 0))) sh M L R n) := by
  refine MX.of (by decide) (by exact Nat.le_of_ble_eq_true rfl) ?_
  refine wx_aload_n dX2_rises_0 rfl ?_
  refine wx_getI dX2_rises_1 fl_X2_28 (sc_1 hS) rfl ?_
  refine wx_iload_n dX2_rises_4 rfl ?_
  refine wx_ishr dX2_rises_5 ?_
  refine wx_iconst (v := 1) dX2_rises_6 (by decide) ?_
  refine wx_iand dX2_rises_7 ?_
  refine wx_iconst (v := 1) dX2_rises_8 (by decide) ?_
  refine wx_icmp_ne (tgt := 16) dX2_rises_9 (by decide) (fun c_9 => ?_) (fun c_9 => ?_)
  · refine wx_iconst (v := 0) dX2_rises_16 (by decide) ?_
    refine wx_istore_n (lv' := [(2, _), (0, _), (1, _)]) dX2_rises_17 (by decide) rfl ?_
    refine wx_iload_n dX2_rises_18 rfl ?_
    refine wx_iload_n dX2_rises_19 rfl ?_
    refine wx_iconst (v := 2) dX2_rises_20 (by decide) ?_
    refine wx_irem dX2_rises_21 (by decide) ?_
    refine wx_if_ne (tgt := 29) dX2_rises_22 (by decide) (fun c_22 => ?_) (fun c_22 => ?_)
    · refine wx_iconst (v := 0) dX2_rises_29 (by decide) ?_
      refine wx_icmp_ne (tgt := 37) dX2_rises_30 (by decide) (fun c_30 => ?_) (fun c_30 => ?_)
      · refine wx_iconst (v := 0) dX2_rises_37 (by decide) ?_
        refine wx_zret dX2_rises_38 rfl (Nat.zero_le _) (Nat.zero_le _) ?_
        exact ⟨by simp_all, rfl, rfl, rfl, rfl, rfl⟩
      · refine wx_iconst (v := 1) dX2_rises_33 (by decide) ?_
        refine wx_goto (tgt := 38) dX2_rises_34 (by decide) ?_
        refine wx_zret dX2_rises_38 rfl (Nat.zero_le _) (Nat.zero_le _) ?_
        exact ⟨by simp_all, rfl, rfl, rfl, rfl, rfl⟩
    · refine wx_iconst (v := 1) dX2_rises_25 (by decide) ?_
      refine wx_goto (tgt := 30) dX2_rises_26 (by decide) ?_
      refine wx_icmp_ne (tgt := 37) dX2_rises_30 (by decide) (fun c_30 => ?_) (fun c_30 => ?_)
      · refine wx_iconst (v := 0) dX2_rises_37 (by decide) ?_
        refine wx_zret dX2_rises_38 rfl (Nat.zero_le _) (Nat.zero_le _) ?_
        exact ⟨by simp_all, rfl, rfl, rfl, rfl, rfl⟩
      · refine wx_iconst (v := 1) dX2_rises_33 (by decide) ?_
        refine wx_goto (tgt := 38) dX2_rises_34 (by decide) ?_
        refine wx_zret dX2_rises_38 rfl (Nat.zero_le _) (Nat.zero_le _) ?_
        exact ⟨by simp_all, rfl, rfl, rfl, rfl, rfl⟩
  · refine wx_iconst (v := 1) dX2_rises_12 (by decide) ?_
    refine wx_goto (tgt := 17) dX2_rises_13 (by decide) ?_
    refine wx_istore_n (lv' := [(2, _), (0, _), (1, _)]) dX2_rises_17 (by decide) rfl ?_
    refine wx_iload_n dX2_rises_18 rfl ?_
    refine wx_iload_n dX2_rises_19 rfl ?_
    refine wx_iconst (v := 2) dX2_rises_20 (by decide) ?_
    refine wx_irem dX2_rises_21 (by decide) ?_
    refine wx_if_ne (tgt := 29) dX2_rises_22 (by decide) (fun c_22 => ?_) (fun c_22 => ?_)
    · refine wx_iconst (v := 0) dX2_rises_29 (by decide) ?_
      refine wx_icmp_ne (tgt := 37) dX2_rises_30 (by decide) (fun c_30 => ?_) (fun c_30 => ?_)
      · refine wx_iconst (v := 0) dX2_rises_37 (by decide) ?_
        refine wx_zret dX2_rises_38 rfl (Nat.zero_le _) (Nat.zero_le _) ?_
        exact ⟨by simp_all, rfl, rfl, rfl, rfl, rfl⟩
      · refine wx_iconst (v := 1) dX2_rises_33 (by decide) ?_
        refine wx_goto (tgt := 38) dX2_rises_34 (by decide) ?_
        refine wx_zret dX2_rises_38 rfl (Nat.zero_le _) (Nat.zero_le _) ?_
        exact ⟨by simp_all, rfl, rfl, rfl, rfl, rfl⟩
    · refine wx_iconst (v := 1) dX2_rises_25 (by decide) ?_
      refine wx_goto (tgt := 30) dX2_rises_26 (by decide) ?_
      refine wx_icmp_ne (tgt := 37) dX2_rises_30 (by decide) (fun c_30 => ?_) (fun c_30 => ?_)
      · refine wx_iconst (v := 0) dX2_rises_37 (by decide) ?_
        refine wx_zret dX2_rises_38 rfl (Nat.zero_le _) (Nat.zero_le _) ?_
        exact ⟨by simp_all, rfl, rfl, rfl, rfl, rfl⟩
      · refine wx_iconst (v := 1) dX2_rises_33 (by decide) ?_
        refine wx_goto (tgt := 38) dX2_rises_34 (by decide) ?_
        refine wx_zret dX2_rises_38 rfl (Nat.zero_le _) (Nat.zero_le _) ?_
        exact ⟨by simp_all, rfl, rfl, rfl, rfl, rfl⟩
theorem m_X2_isOpen {d : Nat} {X : Nat × (Nat → Int32)} {sh : px_Sh} {M : px_M} {L : px_L} {R : px_R} {n : Nat} (c b : Int32) : MX yX2_isOpen cX2_isOpen 3 (some .boolean) d 0 0 X [.ref 1, .int c, .int b] sh M L R n (px_pu (some (.int (if (b >>> (c &&& 31)) &&& 1 = 1 then 1 else 0))) sh M L R n) := by
  refine MX.of (by decide) (by exact Nat.le_of_ble_eq_true rfl) ?_
  refine wx_iload_n dX2_isOpen_0 rfl ?_
  refine wx_iload_n dX2_isOpen_1 rfl ?_
  refine wx_ishr dX2_isOpen_2 ?_
  refine wx_iconst (v := 1) dX2_isOpen_3 (by decide) ?_
  refine wx_iand dX2_isOpen_4 ?_
  refine wx_iconst (v := 1) dX2_isOpen_5 (by decide) ?_
  refine wx_icmp_ne (tgt := 13) dX2_isOpen_6 (by decide) (fun c_6 => ?_) (fun c_6 => ?_)
  · refine wx_iconst (v := 0) dX2_isOpen_13 (by decide) ?_
    refine wx_zret dX2_isOpen_14 rfl (Nat.zero_le _) (Nat.zero_le _) ?_
    exact ⟨by simp_all, rfl, rfl, rfl, rfl, rfl⟩
  · refine wx_iconst (v := 1) dX2_isOpen_9 (by decide) ?_
    refine wx_goto (tgt := 14) dX2_isOpen_10 (by decide) ?_
    refine wx_zret dX2_isOpen_14 rfl (Nat.zero_le _) (Nat.zero_le _) ?_
    exact ⟨by simp_all, rfl, rfl, rfl, rfl, rfl⟩
