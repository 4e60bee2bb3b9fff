/-! the reference sums the forces -/
theorem lcm_q {b u q w : Nat} (hb : 0 < b) (hu : 0 < u) (e : b * q = u * w) : ∃ b0 u0 q2, b = Nat.gcd b u * b0 ∧ u = Nat.gcd b u * u0 ∧ q = u0 * q2 ∧ w = b0 * q2 ∧ 0 < u0 ∧ 0 < b0 := by
  obtain ⟨b0, h1⟩ := Nat.gcd_dvd_left b u
  obtain ⟨u0, h2⟩ := Nat.gcd_dvd_right b u
  have hg : 0 < Nat.gcd b u := Nat.gcd_pos_of_pos_left _ hb
  have hc : Nat.gcd (b / Nat.gcd b u) (u / Nat.gcd b u) = 1 := by rw [Nat.gcd_div (Nat.gcd_dvd_left _ _) (Nat.gcd_dvd_right _ _)]; exact Nat.div_self hg
  generalize Nat.gcd b u = g at *
  have e1 : b / g = b0 := by rw [h1]; exact Nat.mul_div_cancel_left _ hg
  have e2 : u / g = u0 := by rw [h2]; exact Nat.mul_div_cancel_left _ hg
  rw [e1, e2] at hc
  have hu0 : 0 < u0 := by
    rcases Nat.eq_zero_or_pos u0 with z | z
    · rw [z, Nat.mul_zero] at h2; omega
    · exact z
  have hb0 : 0 < b0 := by
    rcases Nat.eq_zero_or_pos b0 with z | z
    · rw [z, Nat.mul_zero] at h1; omega
    · exact z
  have e3 : b0 * q = u0 * w := by
    apply Nat.eq_of_mul_eq_mul_left hg
    have : g * b0 * q = g * u0 * w := by rw [← h1, ← h2]; exact e
    grind
  have hc' : Nat.Coprime u0 b0 := by
    rw [Nat.gcd_comm] at hc
    exact hc
  obtain ⟨q2, hq⟩ : u0 ∣ q := hc'.dvd_of_dvd_mul_left ⟨w, e3⟩
  refine ⟨b0, u0, q2, h1, h2, hq, ?_, hu0, hb0⟩
  apply Nat.eq_of_mul_eq_mul_left hu0
  rw [← e3, hq]
  grind
section MG
variable {sh : px_Sh} {M : px_M} {L : px_L} {R : px_R} {nk nt : Nat}
/-- the sum of the forces, with a common denominator -/
theorem m_fsum {Mx : px_M} {x : Nat → Int} {d : Int} {ab un : Nat → Int} (hnt : nt ≤ 6) (h58 : Mx 73 58 = nI nt) (hB : eaB (sN nt x) d) (hl : ∀ t, t < nt → L 213 t = lI (ab t) ∧ L 214 t = lI (un t)) (hx : ∀ t, t < nt → (0 < un t ∧ 0 ≤ ab t ∧ Nat.gcd (ab t).natAbs (un t).natAbs = 1) ∧ ab t * d = un t * x t ∧ 0 ≤ x t ∧ x t ≤ 4680000000) (p1 p2 : Int32) : ∀ (k i : Nat) (a b q : Int), i + k = nt → 0 < b → 0 < q → d = b * q → sN i x = a * q → ∃ a' b' q', lpf (fun a : Int64 × Int64 × Int32 => f_X12_findEase_34 sh Mx L R p1 p2 a.1 a.2.1 a.2.2) (lI a, lI b, nI i) = some (lI a', lI b') ∧ 0 < b' ∧ 0 < q' ∧ d = b' * q' ∧ sN nt x = a' * q'
  | 0, i, a, b, q, hk, hb, hq, e1, e2 => by
    obtain rfl : i = nt := by omega
    refine ⟨a, b, q, lpf_end ?_, hb, hq, e1, e2⟩
    show f_X12_findEase_34 sh Mx L R p1 p2 (lI a) (lI b) (nI i) = _
    unfold f_X12_findEase_34
    rw [h58, if_pos (Int32.le_refl _)]
  | k + 1, i, a, b, q, hk, hb, hq, e1, e2 => by
    have hi : i < nt := by omega
    obtain ⟨⟨x1, x2, x3⟩, x4, x5, x6⟩ := hx i hi
    obtain ⟨l1, l2⟩ := hl i hi
    obtain ⟨d1, d2, d3, d4⟩ := hB
    obtain ⟨w, w1, w2, w3⟩ := fr_q x1 x2 x3 d3 x5 x4
    have hbd : b ≤ d := by
      have := Int.mul_le_mul_of_nonneg_left (show 1 ≤ q by omega) (show 0 ≤ b by omega)
      omega
    have hud : un i ≤ d := by
      have := Int.mul_le_mul_of_nonneg_left (show 1 ≤ w by omega) (show 0 ≤ un i by omega)
      omega
    obtain ⟨bN, rfl⟩ : ∃ n : Nat, b = n := ⟨b.toNat, by omega⟩
    obtain ⟨uN, eu⟩ : ∃ n : Nat, un i = n := ⟨(un i).toNat, by omega⟩
    obtain ⟨qN, rfl⟩ : ∃ n : Nat, q = n := ⟨q.toNat, by omega⟩
    obtain ⟨wN, rfl⟩ : ∃ n : Nat, w = n := ⟨w.toNat, by omega⟩
    rw [eu] at w2 hud x1 l2
    have e0 : bN * qN = uN * wN := by
      have : (bN : Int) * qN = uN * wN := by rw [← e1, ← w2]
      exact_mod_cast this
    obtain ⟨b0, u0, q2, c1, c2, c3, c4, c5, c6⟩ := lcm_q (show 0 < bN by omega) (show 0 < uN by omega) e0
    obtain ⟨G, eG⟩ : ∃ G : Nat, G = Nat.gcd bN uN := ⟨_, rfl⟩
    rw [← eG] at c1 c2
    have hGp : 0 < G := by
      rw [eG]
      exact Nat.gcd_pos_of_pos_left _ (by omega)
    have hq2 : 0 < q2 := by
      rcases Nat.eq_zero_or_pos q2 with z | z
      · rw [z, Nat.mul_zero] at c3; omega
      · exact z
    have hl0 : ((b0 * uN : Nat) : Int) * q2 = d := by
      rw [e1, c1, c2, c3]
      have : b0 * (G * u0) * q2 = G * b0 * (u0 * q2) := by grind
      exact_mod_cast this
    have hlp : 0 < b0 * uN := Nat.mul_pos c6 (by omega)
    have hld : ((b0 * uN : Nat) : Int) ≤ d := by
      have := Int.mul_le_mul_of_nonneg_left (show (1 : Int) ≤ q2 by omega) (show (0 : Int) ≤ ((b0 * uN : Nat) : Int) by omega)
      omega
    have rb : rg (bN : Int) := ⟨by omega, by omega⟩
    have ru : rg (uN : Int) := ⟨by omega, by omega⟩
    have hGb : G ≤ bN := by rw [eG]; exact Nat.gcd_le_left _ (by omega)
    have rG : rg (G : Int) := ⟨by omega, by omega⟩
    have rl : rg ((b0 * uN : Nat) : Int) := ⟨by omega, by omega⟩
    have v1 : lI (bN : Int) / lI (G : Int) = lI (b0 : Int) := by
      rw [lI_div rb rG]
      congr 1
      rw [c1, Int.natCast_mul]
      exact Int.mul_tdiv_cancel_left _ (by omega)
    have v2 : lI ((b0 * uN : Nat) : Int) / lI (bN : Int) = lI (u0 : Int) := by
      rw [lI_div rl rb]
      congr 1
      rw [show b0 * uN = bN * u0 by rw [c1, c2]; grind, Int.natCast_mul]
      exact Int.mul_tdiv_cancel_left _ (by omega)
    have v3 : lI ((b0 * uN : Nat) : Int) / lI (uN : Int) = lI (b0 : Int) := by
      rw [lI_div rl ru]
      congr 1
      rw [Nat.mul_comm b0 uN, Int.natCast_mul]
      exact Int.mul_tdiv_cancel_left _ (by omega)
    have v4 : lI (b0 : Int) * lI (uN : Int) = lI ((b0 * uN : Nat) : Int) := by rw [lI_mul, Int.natCast_mul]
    have hdv : f_X12_divisor (lI (bN : Int)) (lI (uN : Int)) = some (lI (G : Int)) := by
      rw [m_div rb ru, eG]
      rfl
    have hg : f_X12_findEase_34 sh Mx L R p1 p2 (lI a) (lI (bN : Int)) (nI i) = some (.inl (lI (a * u0 + ab i * b0), lI ((b0 * uN : Nat) : Int), nI (i + 1))) := by
      unfold f_X12_findEase_34
      rw [h58, if_neg (nI_ge hi (by omega)), ok_t (ix_k (show i < 6 by omega) (by decide)), nI_clamp (show i < 2 ^ 31 by omega), l1, l2, hdv, bd1_e, ok_t (lc_nz rG (by omega)), ok_t (ix_k (show i < 6 by omega) (by decide)), v1, v4, nm_u, ok_t (lc_nz rb (by omega)), ok_t (ix_k (show i < 6 by omega) (by decide)), ok_t (ix_k (show i < 6 by omega) (by decide)), ok_t (lc_nz ru (by omega)), v2, v3, lI_mul, lI_mul, lI_add, nm_u, nI_1]
    rw [lpf_go (body := fun a : Int64 × Int64 × Int32 => f_X12_findEase_34 sh Mx L R p1 p2 a.1 a.2.1 a.2.2) (a := (lI a, lI (bN : Int), nI i)) hg]
    refine m_fsum hnt h58 ⟨d1, d2, d3, d4⟩ hl hx p1 p2 k (i + 1) _ _ (q2 : Int) (by omega) (by omega) (by omega) hl0.symm ?_
    show sN i x + x i = _
    rw [e2, w3, c3, c4, Int.natCast_mul, Int.natCast_mul]
    grind
end MG
