/-! System.arraycopy of ints from the arrays' beginnings -/
section PXY
variable {own : String} {cc : ByteArray} {mL : Nat} {rt : Option FieldType} {nm : String × List (Nat × Nat × Nat × Nat)} {d mc ms : Nat} {X : Nat × (Nat → Int32)} {QF : px_F} {pc : Nat} {lv lv' : List (Nat × Value)} {st : List Value} {sh : px_Sh} {M M' : px_M} {L L' : px_L} {R R' : px_R} {n cu su : Nat}
theorem wx_acopy {idx a b la lb N : Nat} (hd : decode cc pc = .ok (.invokestatic idx, 3)) (hw : Cond.methodLink own idx arraycopyName ∈ px_G ∧ Cond.native arraycopyName ∈ px_G ∧ Cond.static arraycopyName ∈ px_G ∧ Cond.initialized "java/lang/System" ∈ px_G) (hsa : sh a = some (13, la)) (hsb : sh b = some (13, lb)) (hN1 : N ≤ la) (hN2 : N ≤ lb) (hN : N < 2 ^ 31) (hd1 : 2 ≤ d) (hcat : (st.map fun v => v.category).sum ≤ 8)
    (h : WX own cc mL rt nm d mc ms X QF (pc + 3) lv st sh (px_c M b (va_cpy (M a) (M b) 0 0 N)) L R n cu su) : WX own cc mL rt nm d mc ms X QF pc lv (.int (nI N) :: .int 0 :: .ref b :: .int 0 :: .ref a :: st) sh M L R n cu su := by
  intro p l e Rm s m args below meth c B D cy sx H locs ls hC hW hn hS hl
  have h2 := fun H1 locs1 => h p l e Rm s m args below meth c B D cy sx H1 locs1 ls hC
  obtain ⟨hx, hb, hml, -, hown, hts, -, hK, hE, -, -, hB, hfr, hlo, -⟩ := hC
  have ca := (hW a _ hsa).2 (Nat.le_refl 13)
  have cb := (hW b _ hsb).2 (Nat.le_refl 13)
  have hcat2 : ((st.map (px_v B sx)).map fun v => v.category).sum ≤ 8 := by
    rw [List.map_map]
    have e9 : (fun v => Value.category v) ∘ px_v B sx = fun v => v.category := funext fun v => px_v_cat B sx v
    rw [e9]
    exact hcat
  have hP : va_P D vwCl [(B + a, .inl (cy 13, la, .inl (M a))), (B + b, .inl (cy 13, lb, .inl (M b)))] H := by
    intro k q hk
    rcases (show k = 0 ∨ k = 1 by have hz : k < 2 := (List.getElem?_eq_some_iff.mp hk).1; omega) with rfl | rfl
    · cases hk; exact ca
    · cases hk; exact cb
  obtain ⟨-, k0, hk0, cm0, hkk0⟩ := hK.arr 13 (by decide) (by decide) la (fun j => .int (M a j))
  obtain ⟨-, k1, hk1, cm1, hkk1⟩ := hK.arr 13 (by decide) (by decide) lb (fun j => .int (M b j))
  intro T hT XX
  obtain ⟨vm', X', step⟩ := XX.arraycopy hx hown (hts _ hw.1) (hts _ hw.2.1) (hts _ hw.2.2.1) (hts _ hw.2.2.2) (src := B + a) (dst := B + b) (cs := arrV (cy 13) la (fun j => .int (M a j))) (cd := arrV (cy 13) lb (fun j => .int (M b j))) (srcPos := 0) (destPos := 0) (n := nI N) (by rw [hT]; exact ca) (by rw [hT]; exact cb)
    (fun _ h => by cases h) (fun _ h => by cases h) (fun h => by cases h) (fun h => by cases h) hk0 hk1 hkk0 hkk1 (by rfl) (by decide) (by decide) (nI_pos hN)
    (by rw [nI_toInt hN]; show ¬ (0 : Int) + _ > _; rw [arrV_size]; omega)
    (by rw [nI_toInt hN]; show ¬ (0 : Int) + _ > _; rw [arrV_size]; omega)
    (fun vm₁ _ i hi => by
      rw [nI_clamp hN] at hi
      have e9 : (arrV (cy 13) la (fun j => .int (M a j))).slots.getD ((0 : Int32).toNatClampNeg + i) .null = .int (M a i) := by
        rw [Array.getD_eq_getD_getElem?, show (0 : Int32).toNatClampNeg + i = i from Nat.zero_add i, arrV_read _ _ (by omega)]
        rfl
      refine ⟨?_, ?_⟩
      · rw [e9]; rfl
      · rw [e9]; exact trivial)
    (g := F0 m pc ls (.int (nI N) :: .int 0 :: .ref (B + b) :: .int 0 :: .ref (B + a) :: st.map (px_v B sx))) rfl (by rw [hml]; exact hl.1) (rest := st.map (px_v B sx)) rfl (by rw [hb]; exact hd) (by omega) (by show 2 * 0 + _ + _ ≤ _; have : nativeFrameWords "java/lang/System" "arraycopy" 5 + 11 ≤ 100 := (by decide); omega)
  have e1 : copied (arrV (cy 13) la (fun j => .int (M a j))) (arrV (cy 13) lb (fun j => .int (M b j))) 0 0 (nI N) = arrV (cy 13) lb (fun j => .int (va_cpy (M a) (M b) 0 0 N j)) := by
    show (arrV (cy 13) lb (fun j => Value.int (M b j))).storeRun (0 : Int32).toNatClampNeg ((arrV (cy 13) la (fun j => Value.int (M a j))).stretch (0 : Int32).toNatClampNeg (nI N).toNatClampNeg) = _
    rw [nI_clamp hN]
    exact va_copied (fun z => Value.int z) (cy 13) (cy 13) (M a) (M b) (by show 0 + N ≤ la; omega)
  rw [e1] at X' step
  have hlb : B + b < H.size := (Array.getElem?_eq_some_iff.mp cb).1
  have oq : ∀ q : Nat, q ≠ B + b → (H.setIfInBounds (B + b) (arrV (cy 13) lb (fun j => .int (va_cpy (M a) (M b) 0 0 N j))))[q]? = H[q]? := fun q hq => by simp [Array.getElem?_setIfInBounds, Ne.symm hq]
  have hheap : ((T.setVm vm').setCell (B + b) (arrV (cy 13) lb (fun j => .int (va_cpy (M a) (M b) 0 0 N j)))).heap = H.setIfInBounds (B + b) (arrV (cy 13) lb (fun j => .int (va_cpy (M a) (M b) 0 0 N j))) := by rw [← hT]; rfl
  obtain ⟨t, a1, b1⟩ := h2 (H.setIfInBounds (B + b) (arrV (cy 13) lb (fun j => .int (va_cpy (M a) (M b) 0 0 N j)))) _ (hW.put (a := b) oq (fun q hq => px_c_ne _ _ hq) (fun _ _ => rfl) (fun _ _ => rfl) (fun kl hkl => by
      have ekl : kl = (13, lb) := Option.some.inj (hkl.symm.trans hsb)
      subst ekl
      refine ⟨fun q => absurd q (Nat.not_lt.mpr (Nat.le_of_ble_eq_true rfl)), fun _ => ?_⟩
      rw [px_c_in]
      simp only [Array.getElem?_setIfInBounds, hlb, if_true]
      rfl)) (by simp; exact hn) ⟨by simp; exact hS.1, fun q g1 g2 => by
      rw [oq q (fun e => g2 (by rw [e]; exact Nat.le_add_right B b))]
      exact hS.2.1 q g1 g2, fun q hq => by
      rcases List.mem_append.mp hq with h | h
      · exact hS.2.2 q h
      · obtain ⟨z, -, hz⟩ := List.mem_map.mp h
        rw [← hz]
        exact Nat.le_add_right B b⟩ hl _ hheap X'
  exact ⟨t, step t a1, b1⟩
end PXY
set_option maxRecDepth 100000 in
theorem ay_X8 : Cond.methodLink RX8 125 arraycopyName ∈ px_G ∧ Cond.native arraycopyName ∈ px_G ∧ Cond.static arraycopyName ∈ px_G ∧ Cond.initialized "java/lang/System" ∈ px_G := ⟨px_mem 1065 (by decide +kernel) rfl, px_mem 1067 (by decide +kernel) rfl, px_mem 1066 (by decide +kernel) rfl, px_mem 21 (by decide +kernel) rfl⟩
set_option maxRecDepth 100000 in
theorem ay_X0 : Cond.methodLink RX0 51 arraycopyName ∈ px_G ∧ Cond.native arraycopyName ∈ px_G ∧ Cond.static arraycopyName ∈ px_G ∧ Cond.initialized "java/lang/System" ∈ px_G := ⟨px_mem 1583 (by decide +kernel) rfl, px_mem 1067 (by decide +kernel) rfl, px_mem 1066 (by decide +kernel) rfl, px_mem 21 (by decide +kernel) rfl⟩
