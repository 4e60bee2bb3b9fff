/-! the reference finds the ease -/
def FE (A : Nat → Nat → Int) (nt b : Nat) (x1 : Int32) (L : px_L) : Prop :=
  (x1 = 0 ∧ ∀ s, s < b → ¬ Bal A (Sx s (cl s).length)) ∨ (x1 = 1 ∧ (∃ s, s < b ∧ Bal A (Sx s (cl s).length)) ∧ ∃ ea eb : Int, L 73 71 = lI ea ∧ L 73 72 = lI eb ∧ eaB ea eb ∧ Nat.gcd ea.natAbs eb.natAbs = 1 ∧ (∃ s x d, s < b ∧ BF A s x d ∧ ea * d = sN nt x * eb) ∧ ∀ s x d, s < b → BF A s x d → ea * d ≤ sN nt x * eb)
def OuE (Mx : px_M) (Lx : px_L) (M' : px_M) (L' : px_L) : Prop := (∀ c j, c ≠ 212 → M' c j = Mx c j) ∧ ∀ a j, a < 200 ∨ 214 < a ∨ a = 212 → ¬ (a = 73 ∧ (j = 71 ∨ j = 72)) → L' a j = Lx a j
theorem OuE.tr {M0 M1 M2 : px_M} {L0 L1 L2 : px_L} (h : OuE M0 L0 M1 L1) (h' : OuE M1 L1 M2 L2) : OuE M0 L0 M2 L2 :=
  ⟨fun c j q => (h'.1 c j q).trans (h.1 c j q), fun a j q q2 => (h'.2 a j q q2).trans (h.2 a j q q2)⟩
theorem low_t {a b q s d : Int} (hb : 0 < b) (ha : 0 ≤ a) (hq : 0 < q) (hs : s = a * q) (hd : d = b * q) (hB : eaB s d) : ∃ a' b' : Int, lI a / lI (Nat.gcd a.natAbs b.natAbs : Int) = lI a' ∧ lI b / lI (Nat.gcd a.natAbs b.natAbs : Int) = lI b' ∧ nz (lI (Nat.gcd a.natAbs b.natAbs : Int)) 0 = true ∧ rg a ∧ rg b ∧ eaB a' b' ∧ Nat.gcd a'.natAbs b'.natAbs = 1 ∧ a' * d = s * b' := by
  obtain ⟨d1, d2, d3, d4⟩ := hB
  have k1 := Int.mul_le_mul_of_nonneg_left (show 1 ≤ q by omega) ha
  have k2 := Int.mul_le_mul_of_nonneg_left (show 1 ≤ q by omega) (show 0 ≤ b by omega)
  obtain ⟨x, rfl⟩ : ∃ n : Nat, a = n := ⟨a.toNat, by omega⟩
  obtain ⟨y, rfl⟩ : ∃ n : Nat, b = n := ⟨b.toNat, by omega⟩
  rw [show (x : Int).natAbs = x from rfl, show (y : Int).natAbs = y from rfl]
  have hgp : 0 < Nat.gcd x y := Nat.gcd_pos_of_pos_right _ (by omega)
  have hgl : Nat.gcd x y ≤ y := Nat.gcd_le_right _ (by omega)
  have hcop : Nat.gcd (x / Nat.gcd x y) (y / Nat.gcd x y) = 1 := by rw [Nat.gcd_div (Nat.gcd_dvd_left _ _) (Nat.gcd_dvd_right _ _)]; exact Nat.div_self hgp
  obtain ⟨x', ex⟩ := Nat.gcd_dvd_left x y
  obtain ⟨y', ey⟩ := Nat.gcd_dvd_right x y
  generalize Nat.gcd x y = G at *
  have hx' : x / G = x' := by rw [ex]; exact Nat.mul_div_cancel_left _ hgp
  have hy' : y / G = y' := by rw [ey]; exact Nat.mul_div_cancel_left _ hgp
  have rG : rg (G : Int) := ⟨by omega, by omega⟩
  have rx : rg (x : Int) := ⟨by omega, by omega⟩
  have ry : rg (y : Int) := ⟨by omega, by omega⟩
  have l1 : x' ≤ x := by rw [← hx']; exact Nat.div_le_self _ _
  have l2 : y' ≤ y := by rw [← hy']; exact Nat.div_le_self _ _
  have l3 : 0 < y' := by
    rcases Nat.eq_zero_or_pos y' with z | z
    · rw [z] at ey; omega
    · exact z
  refine ⟨x', y', ?_, ?_, lc_nz rG (by omega), rx, ry, ⟨by omega, by omega, by omega, by omega⟩, ?_, ?_⟩
  · rw [lI_div rx rG]
    congr 1
    rw [← hx']
    rfl
  · rw [lI_div ry rG]
    congr 1
    rw [← hy']
    rfl
  · rw [hx', hy'] at hcop
    exact hcop
  · have e : (x' : Int) * y = x * y' := by
      have : x' * y = x * y' := by rw [ex, ey]; grind
      exact_mod_cast this
    rw [hs, hd, ← Int.mul_assoc, e]
    grind
theorem lc_lt2 {a b : Int} (ha : rg a) (hb : rg b) : (lg_cmp (lI a) (lI b) < 0) ↔ a < b := by
  have h := lc_ge2 ha hb
  constructor
  · intro q
    rcases Int.lt_or_le a b with z | z
    · exact z
    · exact absurd (h.mpr z) (Int32.not_le.mpr q)
  · intro q
    exact Int32.not_le.mp (fun z => by have := h.mp z; omega)
section MF
variable {sh : px_Sh} {M : px_M} {L : px_L} {R : px_R} {nk nt : Nat}
theorem m_ease1 (hS : SR sh R) (hN : NetS M nk nt) {Mx : px_M} (hE : eqM M Mx) {b : Nat} (hb : b < 2 ^ nt) {x1 : Int32} (hI : FE (nA M nk nt none) nt b x1 L) : ∃ z M' L', f_X12_findEase_4 sh Mx L R x1 (nI b) = some (.inl (z, nI (b + 1), M', L')) ∧ OuE Mx L M' L' ∧ FE (nA M nk nt none) nt (b + 1) z L' := by
  have hnt := hN.1.2
  have h26 : 2 ^ nt ≤ 2 ^ 6 := Nat.pow_le_pow_right (by decide) hnt
  have hb64 : b < 64 := by omega
  have h58 : Mx 73 58 = nI nt := (hE 73 58 (by omega)).trans hN.2.1.2.2.2
  have hlt : ¬ nI (2 ^ nt) ≤ nI b := nI_ge hb (by omega)
  obtain ⟨z, M1, L1, g1, g2, g3, g4⟩ := m_solves (dr := none) hS hN hE hb (p2 := -1) (Or.inl ⟨rfl, rfl⟩) L
  have hO1 : OuE Mx L M1 L1 := ⟨g2, fun a j q _ => g3 a j q⟩
  have l71 := g3 73 71 (by omega)
  have l72 := g3 73 72 (by omega)
  unfold f_X12_findEase_4 f_X12_findEase_153 f_X12_findEase_166
  rw [h58, pow_s nt hnt, if_neg hlt, g1, bd1_e]
  dsimp only
  rcases g4 with ⟨rfl, g4⟩ | ⟨rfl, g4, P, p1, p2, p3, p4, ab, un, hF⟩
  · rw [if_pos rfl, nI_1]
    refine ⟨x1, M1, L1, rfl, hO1, ?_⟩
    unfold FE
    rw [l71, l72]
    rcases hI with ⟨a1, a2⟩ | ⟨a1, ⟨s0, a0, a0'⟩, ea, eb, a2, a3, a4, a5, ⟨s, x, d, a6, a7, a8⟩, a9⟩
    · refine Or.inl ⟨a1, fun s hs => ?_⟩
      by_cases e : s = b
      · subst e; exact g4
      · exact a2 s (by omega)
    · refine Or.inr ⟨a1, ⟨s0, by omega, a0'⟩, ea, eb, a2, a3, a4, a5, ⟨s, x, d, by omega, a7, a8⟩, fun s x d q1 q2 => ?_⟩
      by_cases e : s = b
      · subst e; exact absurd q2.1 g4
      · exact a9 s x d (by omega) q2
  · have hd : ∀ s, (none : Option Nat) = some s → s < nt := fun s e => absurd e (by simp)
    obtain ⟨x, d, hBF, -, hB, hx⟩ := Fr_BF (fun k hk => nA_sp hN hk) (fun x => nA_6 hN hd x) hnt hb g4 p1 p2 p3 p4 (fun t ht => (hF t ht).2.2)
    obtain ⟨a', b', q', s1, s2, s3, s4, s5⟩ := m_fsum (sh := sh) (R := R) (L := L1) hnt ((g2 73 58 (by omega)).trans h58) hB (fun t ht => ⟨(hF t ht).1, (hF t ht).2.1⟩) hx x1 (nI b) nt 0 0 1 d (by omega) (by omega) hB.2.2.1 (by omega) (by rw [Int.zero_mul]; rfl)
    have ha0 : 0 ≤ a' := by
      rcases Int.lt_or_le a' 0 with z | z
      · have := Int.mul_neg_of_neg_of_pos z s3
        have := hB.1
        omega
      · exact z
    obtain ⟨a2, b2, t1, t2, t3, t4, t5, t6, t7, t8⟩ := low_t s2 ha0 s3 s5 s4 hB
    rw [if_neg (by decide), show ((0 : Int64), (1 : Int64), (0 : Int32)) = (lI 0, lI 1, nI 0) from rfl, s1, bd1_e]
    dsimp only
    rw [m_div t4 t5, bd1_e, ok_t t3, t1, nm_u, ok_t t3, t2, nm_u, nI_1]
    have hnew : ∀ ML : px_L, ML 73 71 = lI a2 → ML 73 72 = lI b2 → (∀ s x' d', s < b → BF (nA M nk nt none) s x' d' → a2 * d' ≤ sN nt x' * b2) → FE (nA M nk nt none) nt (b + 1) 1 ML := by
      intro ML q1 q2 q3
      refine Or.inr ⟨rfl, ⟨b, by omega, g4⟩, a2, b2, q1, q2, t6, t7, ⟨b, x, d, by omega, hBF, t8⟩, fun s x' d' h1 h2 => ?_⟩
      by_cases e : s = b
      · subst e
        exact fr_tr t6.2.2.1 hB.2.2.1 (Fo_d h2.2) (Int.le_of_eq t8) (Int.le_of_eq (Fo_sum hb64 hBF.2 h2.2 hnt))
      · exact q3 s x' d' (by omega) h2
    have hO2 : OuE Mx L M1 (px_u (px_u L1 73 71 (lI a2)) 73 72 (lI b2)) := hO1.tr ⟨fun _ _ _ => rfl, fun a j _ q => by rw [pu_n (by omega), pu_n (by omega)]⟩
    have n71 : px_u (px_u L1 73 71 (lI a2)) 73 72 (lI b2) 73 71 = lI a2 := by rw [pu_n (by omega), px_u_in]
    have n72 : px_u (px_u L1 73 71 (lI a2)) 73 72 (lI b2) 73 72 = lI b2 := px_u_in _ _ _ _
    rcases hI with ⟨a1, a3⟩ | ⟨a1, ⟨s0, a0, a0'⟩, ea, eb, c2, c3, c4, c5, ⟨s, y, e, c6, c7, c8⟩, c9⟩
    · rw [if_pos a1]
      exact ⟨1, M1, _, rfl, hO2, hnew _ n71 n72 fun s x' d' q1 q2 => absurd q2.1 (a3 s q1)⟩
    · rw [if_neg (by rw [a1]; decide)]
      have hlc : (lg_cmp (lI a2 * L1 73 72) (L1 73 71 * lI b2) < 0) ↔ a2 * eb < ea * b2 := by
        rw [l71, l72, c2, c3, lI_mul, lI_mul]
        exact lc_lt2 (eaB_rg t6 c4) (eaB_rg c4 t6)
      by_cases hc : a2 * eb < ea * b2
      · rw [if_pos (hlc.mpr hc)]
        exact ⟨1, M1, _, rfl, hO2, hnew _ n71 n72 fun s x' d' q1 q2 => fr_tr t6.2.2.1 c4.2.2.1 (Fo_d q2.2) (Int.le_of_lt hc) (c9 s x' d' q1 q2)⟩
      · rw [if_neg (fun z => hc (hlc.mp z))]
        refine ⟨x1, M1, L1, rfl, hO1, Or.inr ⟨a1, ⟨s0, by omega, a0'⟩, ea, eb, l71.trans c2, l72.trans c3, c4, c5, ⟨s, y, e, by omega, c7, c8⟩, fun s x' d' h1 h2 => ?_⟩⟩
        by_cases e : s = b
        · subst e
          exact fr_tr c4.2.2.1 t6.2.2.1 (Fo_d h2.2) (show ea * b2 ≤ a2 * eb by omega) (fr_tr t6.2.2.1 hB.2.2.1 (Fo_d h2.2) (Int.le_of_eq t8) (Int.le_of_eq (Fo_sum hb64 hBF.2 h2.2 hnt)))
        · exact c9 s x' d' (by omega) h2
end MF
