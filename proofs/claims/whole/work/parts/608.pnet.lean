/-! the net's answers: hangs -/
section PN
variable {sh : px_Sh} {M : px_M} {L : px_L} {R : px_R} {nk nt : Nat}
theorem SeA_w {M1 M' : px_M} {L1 L' : px_L} (h : SeA M nk nt M1 L1) (hM : ∀ c j, 192 ≤ c → c ≤ 198 → M' c j = M c j) (h10 : M' 40 10 = M1 40 10) (h11 : M' 40 11 = M1 40 11) (h12 : M' 40 12 = M1 40 12) (h13 : L' 40 13 = L1 40 13) (h14 : L' 40 14 = L1 40 14) : SeA M' nk nt M' L' := by
  unfold SeA at h ⊢
  rw [nA_w (nk := nk) (nt := nt) (dr := none) hM, h10, h11, h12, h13, h14]
  refine ⟨h.1, fun t ht => ?_, h.2.2⟩
  rw [Gr_w hM]
  exact h.2.1 t ht
theorem p_hangs (hS : SR sh R) (hN : NetS M nk nt) {bb : Nat → Nat} (hP : PerR sh R bb) (hC : NetC M L nk nt) :
    ∃ z M1 L1 R1 M2 L2, f_X11_hangs sh M L R = some (z, M1, L1, R1) ∧ f_X12_hangs sh M1 L1 R1 = some (z, M2, L2) ∧ M2 73 0 = 0 ∧ (∀ c j, ¬ (c = 40 ∧ ((9 ≤ j ∧ j ≤ 12) ∨ j = 16 ∨ j = 17)) → c ≠ 212 → ¬ (c = 73 ∧ j = 0) → M2 c j = M c j) ∧ (∀ a j, a ≠ 48 → R1 a j = R a j) ∧ (∃ bb', PerR sh R1 bb') ∧ NetS M2 nk nt ∧ NetC M2 L2 nk nt := by
  obtain ⟨M1, L1, R1, bb1, g1, g2, g3, g4, g5, g6, g7⟩ := c_settle hS hN hP hC
  have hE : eqM M (px_u M1 73 0 0) := fun c j q => by rw [pu_n (by omega)]; exact g3 c j (by omega)
  obtain ⟨z, M2, L2, k1, k2, k3, k4⟩ := m_ease (L := L1) (SR_48 hS g5) hN hE
  have hz : M1 40 10 = z := by
    rcases g7.1 with ⟨a1, a2⟩ | ⟨a1, ⟨s, a2, a3⟩, -⟩
    · rcases k4 with ⟨b1, -⟩ | ⟨b1, ⟨s, b2, b3⟩, -⟩
      · rw [a1, b1]
      · exact absurd b3 (a2 s b2)
    · rcases k4 with ⟨b1, b2⟩ | ⟨b1, -⟩
      · exact absurd a3 (b2 s a2)
      · rw [a1, b1]
  have hM2 : ∀ c j, c ≠ 212 → ¬ (c = 73 ∧ j = 0) → M2 c j = M1 c j := fun c j q1 q2 => by rw [k3.1 c j q1, pu_n (by omega)]
  have hfr : ∀ c j, ¬ (c = 40 ∧ ((9 ≤ j ∧ j ≤ 12) ∨ j = 16 ∨ j = 17)) → c ≠ 212 → ¬ (c = 73 ∧ j = 0) → M2 c j = M c j := fun c j q1 q2 q3 => by rw [hM2 c j q2 q3, g3 c j q1]
  refine ⟨z, M1, L1, R1, M2, L2, ?_, ?_, ?_, hfr, g5, ⟨bb1, g2⟩, ?_, fun _ => ?_⟩
  · unfold f_X11_hangs
    rw [g1, bd1_e]
    dsimp only
    rw [hz, ok_t k2]
  · unfold f_X12_hangs
    rw [nm_u, k1, bd1_e]
    dsimp only
    rw [ok_t k2]
  · rw [k3.1 73 0 (by omega), px_u_in]
  · obtain ⟨h1, h2, h3, h4⟩ := hN
    refine ⟨h1, ?_, fun i hi => ?_, fun i hi => ?_⟩
    · rw [hfr 40 5 (by omega) (by omega) (by omega), hfr 40 8 (by omega) (by omega) (by omega), hfr 73 57 (by omega) (by omega) (by omega), hfr 73 58 (by omega) (by omega) (by omega)]; exact h2
    · unfold KnI
      rw [hfr 41 i (by omega) (by omega) (by omega), hfr 42 i (by omega) (by omega) (by omega), hfr 43 i (by omega) (by omega) (by omega), hfr 44 i (by omega) (by omega) (by omega), hfr 45 i (by omega) (by omega) (by omega), hfr 192 i (by omega) (by omega) (by omega), hfr 193 i (by omega) (by omega) (by omega), hfr 194 i (by omega) (by omega) (by omega), hfr 195 i (by omega) (by omega) (by omega), hfr 198 i (by omega) (by omega) (by omega)]
      exact h3 i hi
    · unfold StI
      rw [hfr 46 i (by omega) (by omega) (by omega), hfr 47 i (by omega) (by omega) (by omega), hfr 196 i (by omega) (by omega) (by omega), hfr 197 i (by omega) (by omega) (by omega)]
      exact h4 i hi
  · exact SeA_w g7 (fun c j q1 q2 => hfr c j (by omega) (by omega) (by omega)) (hM2 40 10 (by omega) (by omega)) (hM2 40 11 (by omega) (by omega)) (hM2 40 12 (by omega) (by omega)) (k3.2 40 13 (by omega) (by omega)) (k3.2 40 14 (by omega) (by omega))
end PN
