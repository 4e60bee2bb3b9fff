/-! what the four answers of the net share -/
section PE
variable {sh : px_Sh} {M : px_M} {L : px_L} {R : px_R} {nk nt : Nat}
theorem NetS.w2 {M' : px_M} (h : NetS M nk nt) (hM : ∀ c j, ¬ (c = 40 ∧ 9 ≤ j) → c ≠ 212 → ¬ (c = 73 ∧ j = 0) → M' c j = M c j) : NetS M' nk nt := by
  obtain ⟨h1, h2, h3, h4⟩ := h
  refine ⟨h1, ?_, fun i hi => ?_, fun i hi => ?_⟩
  · rw [hM 40 5 (by omega) (by omega) (by omega), hM 40 8 (by omega) (by omega) (by omega), hM 73 57 (by omega) (by omega) (by omega), hM 73 58 (by omega) (by omega) (by omega)]; exact h2
  · unfold KnI
    rw [hM 41 i (by omega) (by omega) (by omega), hM 42 i (by omega) (by omega) (by omega), hM 43 i (by omega) (by omega) (by omega), hM 44 i (by omega) (by omega) (by omega), hM 45 i (by omega) (by omega) (by omega), hM 192 i (by omega) (by omega) (by omega), hM 193 i (by omega) (by omega) (by omega), hM 194 i (by omega) (by omega) (by omega), hM 195 i (by omega) (by omega) (by omega), hM 198 i (by omega) (by omega) (by omega)]
    exact h3 i hi
  · unfold StI
    rw [hM 46 i (by omega) (by omega) (by omega), hM 47 i (by omega) (by omega) (by omega), hM 196 i (by omega) (by omega) (by omega), hM 197 i (by omega) (by omega) (by omega)]
    exact h4 i hi
end PE
