/-! the reference: is a corner; strings that can carry more -/
section MG
variable {sh : px_Sh} {M : px_M} {L : px_L} {R : px_R} {nk nt : Nat}
theorem m_corner (hS : SR sh R) (hN : NetS M nk nt) {t : Nat} (ht : t < nt) {p2 : Int32} (hp : p2 = 0 ∨ p2 = 1) {Mx : px_M} (hE : eqM M Mx) : ∃ z M' L', f_X12_isCorner sh Mx L R (nI t) p2 = some (z, M', L') ∧ OuR Mx L M' L' ∧ ((z = 1 ∧ ∃ s x d, s < 2 ^ nt ∧ BF (nA M nk nt none) s x d ∧ (0 < x t ↔ p2 = 0)) ∨ (z = 0 ∧ ¬ ∃ s x d, s < 2 ^ nt ∧ BF (nA M nk nt none) s x d ∧ (0 < x t ↔ p2 = 0))) := by
  obtain ⟨M', L', g1, g2⟩ := m_corners hS hN ht hp (2 ^ nt) 0 Mx L (by omega) hE (fun ⟨s, x, d, q, _⟩ => by omega)
  unfold f_X12_isCorner
  rw [show (0 : Int32) = nI 0 from rfl]
  rcases g2 with ⟨g2, g3⟩ | ⟨g2, g3⟩
  · exact ⟨1, M', L', by rw [bdS_l g2], g1, Or.inl ⟨rfl, g3⟩⟩
  · exact ⟨0, M', L', by rw [bdS_r g2]; rfl, g1, Or.inr ⟨rfl, g3⟩⟩
theorem m_grows (hS : SR sh R) (hN : NetS M nk nt) {t : Nat} (ht : t < nt) : ∀ (k b : Nat) (Mx : px_M) (Lx : px_L), b + k = 2 ^ nt → eqM M Mx → ¬ Gr M nk nt t b → ∃ M' L', OuR Mx Lx M' L' ∧ ((lpf (fun a : Int32 × px_M × px_L => f_X12_taut_56 sh a.2.1 a.2.2 R (nI t) a.1) (nI b, Mx, Lx) = some (.inl (M', L')) ∧ Gr M nk nt t (2 ^ nt)) ∨ (lpf (fun a : Int32 × px_M × px_L => f_X12_taut_56 sh a.2.1 a.2.2 R (nI t) a.1) (nI b, Mx, Lx) = some (.inr (M', L')) ∧ ¬ Gr M nk nt t (2 ^ nt)))
  | 0, b, Mx, Lx, hk, hE, hI => by
    obtain rfl : b = 2 ^ nt := by omega
    refine ⟨Mx, Lx, ⟨fun _ _ _ => rfl, fun _ _ _ => rfl⟩, Or.inr ⟨lpf_end ?_, hI⟩⟩
    show f_X12_taut_56 sh Mx Lx R (nI t) (nI (2 ^ nt)) = _
    unfold f_X12_taut_56
    rw [hE 73 58 (by omega), hN.2.1.2.2.2, pow_s nt hN.1.2, if_pos (Int32.le_refl _)]
  | k + 1, b, Mx, Lx, hk, hE, hI => by
    have hnt := hN.1.2
    have h26 : 2 ^ nt ≤ 2 ^ 6 := Nat.pow_le_pow_right (by decide) hnt
    have hb : b < 2 ^ nt := by omega
    have h58 : Mx 73 58 = nI nt := (hE 73 58 (by omega)).trans hN.2.1.2.2.2
    have hlt : ¬ nI (2 ^ nt) ≤ nI b := nI_ge hb (by omega)
    have nx : ∀ M', ¬ Gr M' nk nt t b → (¬ b.testBit t = true → ¬ Bal (nA M' nk nt (some t)) (Sx b (cl b).length)) → ¬ Gr M' nk nt t (b + 1) := by
      rintro M' q1 q2 ⟨s, s1, s2, s3⟩
      by_cases e : s = b
      · subst e; exact q2 s2 s3
      · exact q1 ⟨s, by omega, s2, s3⟩
    by_cases hbt : b.testBit t = true
    · have hg : f_X12_taut_56 sh Mx Lx R (nI t) (nI b) = some (.inl (nI (b + 1), Mx, Lx)) := by
        unfold f_X12_taut_56 f_X12_taut_85
        rw [h58, pow_s nt hnt, if_neg hlt, if_neg (fun z => (b32_z _ (by omega)).mp z ((bit_iff (by omega) (by omega)).mpr hbt)), nI_1]
      rw [lpf_go (body := fun a : Int32 × px_M × px_L => f_X12_taut_56 sh a.2.1 a.2.2 R (nI t) a.1) (a := (nI b, Mx, Lx)) (a' := (nI (b + 1), Mx, Lx)) hg]
      exact m_grows hS hN ht k (b + 1) Mx Lx (by omega) hE (nx M hI fun q => absurd hbt q)
    · obtain ⟨z, M1, L1, g1, g2, g3, g4⟩ := m_solves (dr := some t) hS hN hE hb (p2 := nI t) (Or.inr ⟨t, ht, rfl, rfl⟩) Lx
      have hO1 : OuR Mx Lx M1 L1 := ⟨g2, g3⟩
      have hz0 : (nI b >>> (nI t &&& 31)) &&& 1 = 0 := (b32_z _ (by omega)).mpr (fun z => hbt ((bit_iff (by omega) (by omega)).mp z))
      rcases g4 with ⟨rfl, g4⟩ | ⟨rfl, g4, -⟩
      · have hg : f_X12_taut_56 sh Mx Lx R (nI t) (nI b) = some (.inl (nI (b + 1), M1, L1)) := by
          unfold f_X12_taut_56 f_X12_taut_85
          rw [h58, pow_s nt hnt, if_neg hlt, if_pos hz0, g1, bd1_e]
          dsimp only
          rw [if_pos rfl, nI_1]
        rw [lpf_go (body := fun a : Int32 × px_M × px_L => f_X12_taut_56 sh a.2.1 a.2.2 R (nI t) a.1) (a := (nI b, Mx, Lx)) (a' := (nI (b + 1), M1, L1)) hg]
        obtain ⟨M', L', r1, r2⟩ := m_grows hS hN ht k (b + 1) M1 L1 (by omega) (hE.fr g2) (nx M hI fun _ => g4)
        exact ⟨M', L', hO1.tr r1, r2⟩
      · refine ⟨M1, L1, hO1, Or.inl ⟨lpf_end ?_, b, hb, hbt, g4⟩⟩
        show f_X12_taut_56 sh Mx Lx R (nI t) (nI b) = _
        unfold f_X12_taut_56 f_X12_taut_85
        rw [h58, pow_s nt hnt, if_neg hlt, if_pos hz0, g1, bd1_e]
        dsimp only
        rw [if_neg (by decide)]
end MG
