/-! the memory behind the constructors meets the joint invariant -/
theorem rlay_big {k j : Nat} (h : 78 ≤ j) : rlay k j = none := by
  unfold rlay
  simp only [if_neg (show ¬ j < 1 by omega), if_neg (show ¬ j < 2 by omega), if_neg (show ¬ j < 3 by omega), if_neg (show ¬ j < 4 by omega), if_neg (show ¬ j < 5 by omega), if_neg (show ¬ j < 6 by omega), if_neg (show ¬ j < 7 by omega), if_neg (show ¬ j < 8 by omega), if_neg (show ¬ j < 9 by omega), if_neg (show ¬ j < 10 by omega), if_neg (show ¬ j < 11 by omega), if_neg (show ¬ j < 12 by omega), if_neg (show ¬ j < 13 by omega), if_neg (show ¬ j < 14 by omega), if_neg (show ¬ j < 15 by omega), if_neg (show ¬ j < 16 by omega), if_neg (show ¬ j < 17 by omega), if_neg (show ¬ j < 18 by omega), if_neg (show ¬ j < 19 by omega), if_neg (show ¬ j < 20 by omega), if_neg (show ¬ j < 21 by omega), if_neg (show ¬ j < 22 by omega), if_neg (show ¬ j < 23 by omega), if_neg (show ¬ j < 24 by omega), if_neg (show ¬ j < 25 by omega), if_neg (show ¬ j < 26 by omega), if_neg (show ¬ j < 27 by omega), if_neg (show ¬ j < 28 by omega), if_neg (show ¬ j < 29 by omega), if_neg (show ¬ j < 30 by omega), if_neg (show ¬ j < 31 by omega), if_neg (show ¬ j < 32 by omega), if_neg (show ¬ j < 33 by omega), if_neg (show ¬ j < 34 by omega), if_neg (show ¬ j < 35 by omega), if_neg (show ¬ j < 36 by omega), if_neg (show ¬ j < 37 by omega), if_neg (show ¬ j < 38 by omega), if_neg (show ¬ j < 39 by omega), if_neg (show ¬ j < 40 by omega), if_neg (show ¬ j < 41 by omega), if_neg (show ¬ j < 42 by omega), if_neg (show ¬ j < 43 by omega), if_neg (show ¬ j < 44 by omega), if_neg (show ¬ j < 45 by omega), if_neg (show ¬ j < 46 by omega), if_neg (show ¬ j < 47 by omega), if_neg (show ¬ j < 48 by omega), if_neg (show ¬ j < 49 by omega), if_neg (show ¬ j < 50 by omega), if_neg (show ¬ j < 51 by omega), if_neg (show ¬ j < 52 by omega), if_neg (show ¬ j < 53 by omega), if_neg (show ¬ j < 54 by omega), if_neg (show ¬ j < 55 by omega), if_neg (show ¬ j < 56 by omega), if_neg (show ¬ j < 57 by omega), if_neg (show ¬ j < 58 by omega), if_neg (show ¬ j < 59 by omega), if_neg (show ¬ j < 60 by omega), if_neg (show ¬ j < 61 by omega), if_neg (show ¬ j < 62 by omega), if_neg (show ¬ j < 63 by omega), if_neg (show ¬ j < 64 by omega), if_neg (show ¬ j < 65 by omega), if_neg (show ¬ j < 66 by omega), if_neg (show ¬ j < 67 by omega), if_neg (show ¬ j < 68 by omega), if_neg (show ¬ j < 69 by omega), if_neg (show ¬ j < 70 by omega), if_neg (show ¬ j < 71 by omega), if_neg (show ¬ j < 72 by omega), if_neg (show ¬ j < 73 by omega), if_neg (show ¬ j < 74 by omega), if_neg (show ¬ j < 75 by omega), if_neg (show ¬ j < 76 by omega), if_neg (show ¬ j < 77 by omega), ite_self]
def R0s : px_R := iR_73 (iR_0 (fun _ _ => none))
def M0s : px_M := iM_73 (iM_0 (fun _ _ => 0))
set_option maxRecDepth 100000 in
theorem R0_all : ∀ k, k < 220 → ∀ j, j < 78 → rlay k j = none ∨ R0s k j = rlay k j := by decide +kernel
theorem R0_SR : SR (shk 220) R0s := by
  refine ⟨fun k hk => shk_at hk rfl, fun k j b hb => ?_⟩
  have h1 := rlay_lt hb
  by_cases h2 : j < 78
  · rcases R0_all k h1 j h2 with q | q
    · rw [q] at hb; cases hb
    · rw [q]; exact hb
  · rw [rlay_big (by omega)] at hb; cases hb
theorem M0_z {c j : Nat} (h : ¬ (c = 14 ∧ (j = 1 ∨ j = 3))) (h2 : ¬ (c = 20 ∧ j = 9)) (h3 : ¬ (c = 73 ∧ (j = 25 ∨ j = 28 ∨ j = 38))) : M0s c j = 0 := by
  unfold M0s iM_73 iM_0 iM_20 iM_14
  simp (disch := omega) only [pu_n]
theorem M0_s : (M0s 14 1 = nI 100 ∧ M0s 14 3 = -1) ∧ M0s 20 9 = -1 ∧ M0s 73 25 = nI 100 ∧ M0s 73 28 = -1 ∧ M0s 73 38 = -1 := by decide +kernel
theorem R0_48 : ∀ i, i < 12 → R0s 48 i = some (49 + i) := by decide +kernel
theorem R0_r : R0s 0 7 = some 68 ∧ R0s 20 10 = some 22 := by decide +kernel
theorem IA_0 : IA 0 (shk 220) M0s (fun _ _ => 0) R0s 220 220 1524277 := by
  obtain ⟨⟨s1, s2⟩, s3, s4, s5, s6⟩ := M0_s
  have z : ∀ c j, ¬ (c = 14 ∧ (j = 1 ∨ j = 3)) → ¬ (c = 20 ∧ j = 9) → ¬ (c = 73 ∧ (j = 25 ∨ j = 28 ∨ j = 38)) → M0s c j = 0 := fun c j a b d => M0_z a b d
  have y : ∀ c j, ¬ (c = 14 ∧ (j = 1 ∨ j = 3)) → ¬ (c = 20 ∧ j = 9) → ¬ (c = 73 ∧ (j = 25 ∨ j = 28 ∨ j = 38)) → M0s c j = nI 0 := fun c j a b d => M0_z a b d
  refine ⟨⟨R0_SR, Nat.le_refl _, fun k hk => if_neg (by omega)⟩, ?_, ?_, ?_, ?_, ?_, ?_, by omega⟩
  · refine ⟨0, 0, 0, [], Or.inl rfl, ⟨by decide, by decide⟩, ⟨y 1 0 (by omega) (by omega) (by omega), y 73 1 (by omega) (by omega) (by omega), y 1 1 (by omega) (by omega) (by omega), y 73 2 (by omega) (by omega) (by omega), y 1 2 (by omega) (by omega) (by omega)⟩, fun _ => z 73 3 (by omega) (by omega) (by omega), fun q => absurd rfl q, fun i hi => ?_⟩
    rw [z 78 i (by omega) (by omega) (by omega), Nat.zero_testBit]
    rfl
  · refine ⟨0, ⟨0, fun _ => 0, fun _ => 0, ⟨⟨by omega, by omega⟩, ⟨y 6 1 (by omega) (by omega) (by omega), y 73 9 (by omega) (by omega) (by omega), y 6 3 (by omega) (by omega) (by omega), y 73 10 (by omega) (by omega) (by omega), ?_, ?_⟩, fun i hi => absurd hi (by omega), fun i j hi => absurd hi (by omega), fun f hf => absurd hf (by omega), fun f g hf => absurd hf (by omega), fun i hi => absurd hi (by omega), fun i _ => ⟨z 84 i (by omega) (by omega) (by omega), z 85 i (by omega) (by omega) (by omega), z 86 i (by omega) (by omega) (by omega)⟩, fun f _ => ⟨z 88 f (by omega) (by omega) (by omega), z 89 f (by omega) (by omega) (by omega)⟩⟩, fun i hi => absurd hi (by omega)⟩, 0, ⟨0, 0, fun _ => 0, fun _ => 0, fun _ => 0, 0, 100, 0, ⟨⟨by omega, ⟨y 14 5 (by omega) (by omega) (by omega), y 73 27 (by omega) (by omega) (by omega)⟩, fun w hw => absurd hw (by omega), fun v w hv => absurd hv (by omega), fun v w hv => absurd hv (by omega)⟩, ⟨by omega, ⟨y 14 5 (by omega) (by omega) (by omega), y 73 27 (by omega) (by omega) (by omega), y 14 0 (by omega) (by omega) (by omega), y 73 24 (by omega) (by omega) (by omega), s1, s4, y 14 2 (by omega) (by omega) (by omega), y 73 26 (by omega) (by omega) (by omega), y 14 8 (by omega) (by omega) (by omega), y 73 41 (by omega) (by omega) (by omega)⟩, ⟨by rw [s2, s5], Or.inl s2⟩, fun k hk => absurd hk (by omega), fun e he => absurd he (by omega)⟩⟩, fun k hk => absurd hk (by omega), Nat.zero_le _⟩, by omega⟩
    · rw [z 6 4 (by omega) (by omega) (by omega), z 73 11 (by omega) (by omega) (by omega)]
    · rw [z 6 5 (by omega) (by omega) (by omega), z 73 12 (by omega) (by omega) (by omega)]
  · refine ⟨⟨0, by omega, y 20 1 (by omega) (by omega) (by omega), y 73 35 (by omega) (by omega) (by omega), fun i hi => absurd hi (by omega)⟩, 68, 22, fun _ => 0, 0, [], Or.inr ⟨rfl, rfl⟩, ⟨R0_r.1, R0_r.2⟩, by rw [s3, s6], ⟨by omega, fun i hi => absurd hi (by omega), y 73 37 (by omega) (by omega) (by omega)⟩, ⟨y 73 36 (by omega) (by omega) (by omega), y 68 5 (by omega) (by omega) (by omega), by decide⟩, ⟨rfl, fun r hr => absurd hr List.not_mem_nil, by decide⟩, fun j hj => absurd hj (by show ¬ j < 0; omega), fun i hi => absurd hi (by show ¬ i < 0; omega)⟩
  · exact ⟨0, 0, ⟨by omega, by omega⟩, ⟨y 27 2 (by omega) (by omega) (by omega), y 73 48 (by omega) (by omega) (by omega), y 27 6 (by omega) (by omega) (by omega), y 73 49 (by omega) (by omega) (by omega)⟩, fun i hi => absurd hi (by omega), fun i hi => absurd hi (by omega), fun i => z 36 i (by omega) (by omega) (by omega)⟩
  · exact ⟨0, 0, fun i => 49 + i, ⟨⟨by omega, by omega⟩, ⟨y 40 5 (by omega) (by omega) (by omega), y 73 57 (by omega) (by omega) (by omega), y 40 8 (by omega) (by omega) (by omega), y 73 58 (by omega) (by omega) (by omega)⟩, fun i hi => absurd hi (by omega), fun i hi => absurd hi (by omega)⟩, fun q => absurd (z 40 9 (by omega) (by omega) (by omega)) q, fun i hi => ⟨R0_48 i hi, show 49 ≤ 49 + i by omega, show 49 + i ≤ 60 by omega⟩, fun i j _ _ e => by have e : 49 + i = 49 + j := e; omega⟩
  · exact ⟨0, by omega, y 61 4 (by omega) (by omega) (by omega), y 73 59 (by omega) (by omega) (by omega), fun i hi => absurd hi (by omega)⟩
section START
variable {X : Nat × (Nat → Int32)}
set_option maxRecDepth 100000 in
theorem law_start (hX : X.1 ≤ 3072) : LW X 0 [(0, .retAddr 10)] [] (shk 0) (fun _ _ => 0) (fun _ _ => 0) (fun _ _ => none) 0 0 0 := by
  have hz : Zs 0 (fun _ _ => 0) (fun _ _ => 0) (fun _ _ => none) := ⟨fun _ _ _ => rfl, fun _ _ _ => rfl, fun _ _ _ => rfl⟩
  refine wz_new (k' := 1) (cu' := 1) (su' := 8) hz dL_law_0 (by decide) cl_L_8 (by decide) rfl rfl rfl (by omega) (by omega) ?_
  replace hz := hz.mono (k' := 1) (by omega)
  refine wx_dup dL_law_3 rfl ?_
  refine wz_init dL_law_4 ml_L_146 my_X11_init iv_X11_init (ib_0 (d := 100) (by omega) hz) (by omega) (by exact Nat.le_of_ble_eq_true rfl) (cu' := 73) (su' := 2991) rfl rfl (by omega) (by omega) ?_
  replace hz := iZ_0 hz
  refine wx_astore_n (lv' := [(1, .ref 0), (0, .retAddr 10)]) dL_law_7 (by decide) rfl ?_
  refine wz_new (k' := 74) (cu' := 74) (su' := 3077) hz dL_law_8 (by decide) cl_L_147 (by decide) rfl rfl rfl (by omega) (by omega) ?_
  replace hz := hz.mono (k' := 74) (by omega)
  refine wx_dup dL_law_11 rfl ?_
  refine wz_init dL_law_12 ml_L_149 my_X12_init iv_X12_init (ib_73 (d := 100) (by omega) hz) (by omega) (by exact Nat.le_of_ble_eq_true rfl) (cu' := 219) (su' := 1524276) rfl rfl (by omega) (by omega) ?_
  replace hz := iZ_73 hz
  refine wx_astore_n (lv' := [(2, .ref 73), (1, .ref 0), (0, .retAddr 10)]) dL_law_15 (by decide) rfl ?_
  refine wx_iconst (v := 1) dL_law_16 (by decide) ?_
  refine wz_newarr (kd := 14) (N := 1) (k' := 220) (cu' := 220) (su' := 1524277) hz dL_law_17 (by decide) rfl ac_14 (by decide) (by decide) (by decide) (by decide) rfl rfl rfl (by omega) (by omega) ?_
  refine wx_astore_n (lv' := [(3, .ref 219), (2, .ref 73), (1, .ref 0), (0, .retAddr 10)]) dL_law_19 (by decide) rfl ?_
  refine wx_iconst (v := 0) dL_law_20 (by decide) ?_
  refine wx_istore (lv' := [(4, .int 0), (3, .ref 219), (2, .ref 73), (1, .ref 0), (0, .retAddr 10)]) dL_law_21 (by decide) rfl ?_
  exact wx_sub (law_loop hX 512 0 _ _ _ _ _ _ _ (by omega) IA_0) (px_s rfl (px_s rfl (px_s rfl (px_s rfl (px_s rfl px_0)))))
end START
