/-! the catalog's changes, in the words of the modules -/
theorem mdc_cat : ∀ c, c < 219 → (61 ≤ c ∧ c ≤ 67 ∨ 215 ≤ c) → mdc c = 7 ∨ mdc c = 0 := by decide +kernel
theorem kp_cat {sh : px_Sh} {M M' : px_M} (h : chg S_cat M M') : kp sh [7] M M' := fun c j hm => h c j fun hs => hm (by
  unfold S_cat at hs
  have key : md sh c j = 7 ∨ md sh c j = 0 := by
    rcases hs with hs | ⟨rfl, rfl | rfl⟩ | hs
    · unfold md
      rw [if_pos (by omega), if_neg (by omega)]
      exact mdc_cat c (by omega) (by omega)
    · exact Or.inr rfl
    · exact Or.inl rfl
    · unfold md
      rw [if_pos (by omega), if_neg (by omega)]
      exact mdc_cat c (by omega) (by omega)
  rcases key with e | e
  · rw [e]; decide
  · rw [e]; decide)
theorem Icat.sm {sh : px_Sh} {M M' : px_M} (h : Icat M) (hM : sm_ sh 7 M M') : Icat M' := by
  obtain ⟨k, h1, h2, h3, h4⟩ := h
  refine ⟨k, h1, by rw [hM 61 4 rfl]; exact h2, by rw [hM 73 59 rfl]; exact h3, fun i hi => ?_⟩
  rw [hM 62 i rfl, hM 63 i rfl, hM 64 i rfl, hM 65 i rfl, hM 215 i rfl, hM 216 i rfl, hM 217 i rfl, hM 218 i rfl]
  exact h4 i hi
