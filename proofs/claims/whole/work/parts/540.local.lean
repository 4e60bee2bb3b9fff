/-! what reads the class's cells alone, what reads the reference's alone -/
def eqR (M M' : px_M) : Prop := ∀ c, 73 ≤ c → c ≤ 218 → M' c = M c
def eqC (M M' : px_M) : Prop := ∀ c, c < 73 ∨ 219 ≤ c → M' c = M c
theorem bd1_n {α β : Type} (f : α → Option β) : bd1 (none : Option α) f = none := rfl
section LOCAL
variable {sh : px_Sh} {M M' : px_M} {R : px_R} {np : Nat} {pa : Nat → Nat}
theorem loc_strength (h : eqR M M') : f_X12_strength M' = f_X12_strength M := by
  unfold f_X12_strength f_X12_sumY f_X12_sumY_4 f_X12_pushY f_X12_pushY_54 f_X12_slantOf f_X12_slantOf_29 f_X12_slantOf_58 f_X12_flapOf f_X12_flapOf_2 f_X12_strength_29
  simp only [h 73 (by omega) (by omega), h 81 (by omega) (by omega), h 82 (by omega) (by omega), h 84 (by omega) (by omega), h 86 (by omega) (by omega), h 87 (by omega) (by omega), h 88 (by omega) (by omega)]
theorem loc_met (h : eqR M M') (x1 x2 x3 x4 : Int32) : f_X12_isMet M' x1 x2 x3 x4 = f_X12_isMet M x1 x2 x3 x4 := by
  unfold f_X12_isMet f_X12_angleOf f_X12_isMet_46 f_X12_isMet_42 f_X12_isMet_47
  simp only [h 90 (by omega) (by omega), h 91 (by omega) (by omega), h 92 (by omega) (by omega)]
theorem loc_goal (h : eqC M M') (hR : ∀ j b, R 15 j = some b → 220 ≤ b) : f_X9_isGoalMet sh M' R = f_X9_isGoalMet sh M R := by
  unfold f_X9_isGoalMet f_X9_hasWorld f_X10_aheadOn f_X10_angleOn
  rw [h 14 (by omega)]
  cases hb : R 15 (M 14 3).toNatClampNeg with
  | none => simp only [nm_u, hb, bd1_n]
  | some b => simp only [nm_u, hb, bd1_e, h b (Or.inr (by have := hR _ _ hb; omega))]
theorem c_strengthP (hP : PaC sh M R np pa) : f_X8_strength sh M R = some (vStr M pa np) := by
  obtain ⟨h16, p2, p3, p4⟩ := hP
  have K := lpf_for (body := fun a : Int32 × Int32 => f_X8_pushY_4 sh M R 3 a.1 a.2) (fun i (s : Int32) => (s, nI i)) (fun i s => s + pY M pa 3 i) (fun _ _ => True) (fun s => s) np
    (fun i s hi _ => by
      have hp := p3 i hi
      refine ⟨?_, trivial⟩
      show f_X8_pushY_4 sh M R 3 s (nI i) = _
      unfold f_X8_pushY_4
      rw [p2, if_neg (nI_ge hi (by omega)), ok_t (ix_k (show i < 16 by omega) (by decide)), nI_clamp (by omega), hp.1, bd1_e, ok_t (hk_t hp.2.1), e_pushY5 (hk_t hp.2.1), bd1_e, nm_u, nI_1]
      rfl)
    (fun s _ => by
      show f_X8_pushY_4 sh M R 3 s (nI np) = _
      unfold f_X8_pushY_4
      rw [p2, if_pos (Int32.le_refl _)]) np 0 0 (by omega) trivial
  have hy : f_X8_pushY sh M R 3 = some (sY M pa np 3) := by
    unfold f_X8_pushY
    rw [show ((0, 0) : Int32 × Int32) = (0, nI 0) from rfl, K.1]
    rfl
  unfold f_X8_strength
  rw [hy, bd1_e, e_min, bd1_e, e_max, bd1_e]
  unfold vStr cl20
  congr 1
  generalize sY M pa np 3 / 100 = x
  by_cases h1 : 0 ≤ x
  · by_cases h2 : x ≤ 20
    · rw [if_pos h1, if_pos h2]
      by_cases h3 : x < 20
      · rw [if_pos h3]
        by_cases h4 : 0 < x
        · rw [if_pos h4]
        · rw [if_neg h4]; exact Int32.le_antisymm h1 (Int32.not_lt.mp h4)
      · rw [if_neg h3, if_pos (by decide)]; exact Int32.le_antisymm (Int32.not_lt.mp h3) h2
    · rw [if_pos h1, if_neg h2, if_neg (fun q => h2 (Int32.le_of_lt q)), if_pos (by decide)]
  · rw [if_neg h1, if_pos (Int32.lt_trans (Int32.not_le.mp h1) (by decide)), if_neg (fun q => h1 (Int32.le_of_lt q))]
end LOCAL
