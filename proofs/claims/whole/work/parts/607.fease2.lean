/-! the reference finds the ease: all sets -/
section MF2
variable {sh : px_Sh} {M : px_M} {L : px_L} {R : px_R} {nk nt : Nat}
theorem m_eases (hS : SR sh R) (hN : NetS M nk nt) : ∀ (k b : Nat) (x1 : Int32) (Mx : px_M) (Lx : px_L), b + k = 2 ^ nt → eqM M Mx → FE (nA M nk nt none) nt b x1 Lx → ∃ z M' L', lpf (fun a : Int32 × Int32 × px_M × px_L => f_X12_findEase_4 sh a.2.2.1 a.2.2.2 R a.1 a.2.1) (x1, nI b, Mx, Lx) = some (z, M', L') ∧ OuE Mx Lx M' L' ∧ FE (nA M nk nt none) nt (2 ^ nt) z L'
  | 0, b, x1, Mx, Lx, hk, hE, hI => by
    obtain rfl : b = 2 ^ nt := by omega
    refine ⟨x1, Mx, Lx, lpf_end ?_, ⟨fun _ _ _ => rfl, fun _ _ _ _ => rfl⟩, hI⟩
    show f_X12_findEase_4 sh Mx Lx R x1 (nI (2 ^ nt)) = _
    unfold f_X12_findEase_4
    rw [hE 73 58 (by omega), hN.2.1.2.2.2, pow_s nt hN.1.2, if_pos (Int32.le_refl _)]
  | k + 1, b, x1, Mx, Lx, hk, hE, hI => by
    obtain ⟨z, M1, L1, g1, g2, g3⟩ := m_ease1 hS hN hE (show b < 2 ^ nt by omega) hI
    rw [lpf_go (body := fun a : Int32 × Int32 × px_M × px_L => f_X12_findEase_4 sh a.2.2.1 a.2.2.2 R a.1 a.2.1) (a := (x1, nI b, Mx, Lx)) (a' := (z, nI (b + 1), M1, L1)) g1]
    obtain ⟨z', M', L', r1, r2, r3⟩ := m_eases hS hN k (b + 1) z M1 L1 (by omega) (hE.fr g2.1) g3
    exact ⟨z', M', L', r1, g2.tr r2, r3⟩
theorem m_ease (hS : SR sh R) (hN : NetS M nk nt) {Mx : px_M} (hE : eqM M Mx) : ∃ z M' L', f_X12_findEase sh Mx L R = some (z, M', L') ∧ zb z = true ∧ OuE Mx L M' L' ∧ FE (nA M nk nt none) nt (2 ^ nt) z L' := by
  obtain ⟨z, M', L', g1, g2, g3⟩ := m_eases (R := R) hS hN (2 ^ nt) 0 0 Mx L (by omega) hE (Or.inl ⟨rfl, fun s q => absurd q (by omega)⟩)
  have hz : zb z = true := by
    rcases g3 with ⟨rfl, -⟩ | ⟨rfl, -⟩ <;> decide
  unfold f_X12_findEase
  rw [show ((0 : Int32), (0 : Int32), Mx, L) = (0, nI 0, Mx, L) from rfl, g1, bd1_e]
  dsimp only
  rw [ok_t hz]
  exact ⟨z, M', L', rfl, hz, g2, g3⟩
/-- both programs' answers are one -/
theorem ease_uq {A : Nat → Nat → Int} {a b a' b' : Int} (h : eaB a b) (h' : eaB a' b') (hg : Nat.gcd a.natAbs b.natAbs = 1) (hg' : Nat.gcd a'.natAbs b'.natAbs = 1) (h1 : ∃ s x d, s < 2 ^ nt ∧ BF A s x d ∧ a * d = sN nt x * b) (h2 : ∀ s x d, s < 2 ^ nt → BF A s x d → a * d ≤ sN nt x * b) (h1' : ∃ s x d, s < 2 ^ nt ∧ BF A s x d ∧ a' * d = sN nt x * b') (h2' : ∀ s x d, s < 2 ^ nt → BF A s x d → a' * d ≤ sN nt x * b') : a = a' ∧ b = b' := by
  obtain ⟨s, x, d, p1, p2, p3⟩ := h1
  obtain ⟨s', x', d', q1, q2, q3⟩ := h1'
  have e1 : a' * b ≤ a * b' := fr_tr h'.2.2.1 (Fo_d p2.2) h.2.2.1 (h2' s x d p1 p2) (Int.le_of_eq p3.symm)
  have e2 : a * b' ≤ a' * b := fr_tr h.2.2.1 (Fo_d q2.2) h'.2.2.1 (h2 s' x' d' q1 q2) (Int.le_of_eq q3.symm)
  have e : a * b' = b * a' := by rw [Int.mul_comm b a']; omega
  obtain ⟨k, k1, k2, k3⟩ := fr_q h.2.2.1 h.1 hg h'.2.2.1 h'.1 e
  have e' : a' * b = b' * a := by rw [Int.mul_comm b' a]; omega
  obtain ⟨l, l1, l2, l3⟩ := fr_q h'.2.2.1 h'.1 hg' h.2.2.1 h.1 e'
  have u1 : b ≤ b' := by
    have := Int.mul_le_mul_of_nonneg_left (show 1 ≤ k by omega) (show 0 ≤ b by have := h.2.2.1; omega)
    omega
  have u2 : b' ≤ b := by
    have := Int.mul_le_mul_of_nonneg_left (show 1 ≤ l by omega) (show 0 ≤ b' by have := h'.2.2.1; omega)
    omega
  have u3 : a ≤ a' := by
    have := Int.mul_le_mul_of_nonneg_left (show 1 ≤ k by omega) h.1
    omega
  have u4 : a' ≤ a := by
    have := Int.mul_le_mul_of_nonneg_left (show 1 ≤ l by omega) h'.1
    omega
  exact ⟨by omega, by omega⟩
end MF2
