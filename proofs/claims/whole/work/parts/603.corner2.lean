/-! the reference: corners, strings that can carry more -/
section MC2
variable {sh : px_Sh} {M : px_M} {L : px_L} {R : px_R} {nk nt : Nat}
/-- what solves leaves -/
def OuR (Mx : px_M) (Lx : px_L) (M' : px_M) (L' : px_L) : Prop := (∀ c j, c ≠ 212 → M' c j = Mx c j) ∧ ∀ a j, a < 200 ∨ 214 < a ∨ a = 212 → L' a j = Lx a j
theorem OuR.tr {M0 M1 M2 : px_M} {L0 L1 L2 : px_L} (h : OuR M0 L0 M1 L1) (h' : OuR M1 L1 M2 L2) : OuR M0 L0 M2 L2 :=
  ⟨fun c j q => (h'.1 c j q).trans (h.1 c j q), fun a j q => (h'.2 a j q).trans (h.2 a j q)⟩
theorem eqM.fr {Mx M' : px_M} (h : eqM M Mx) (h' : ∀ c j, c ≠ 212 → M' c j = Mx c j) : eqM M M' := fun c j q => (h' c j (by omega)).trans (h c j q)
theorem m_corners (hS : SR sh R) (hN : NetS M nk nt) {t : Nat} (ht : t < nt) {p2 : Int32} (hp : p2 = 0 ∨ p2 = 1) : ∀ (k b : Nat) (Mx : px_M) (Lx : px_L), b + k = 2 ^ nt → eqM M Mx → (¬ ∃ s x d, s < b ∧ BF (nA M nk nt none) s x d ∧ (0 < x t ↔ p2 = 0)) → ∃ M' L', OuR Mx Lx M' L' ∧ ((lpf (fun a : Int32 × px_M × px_L => f_X12_isCorner_2 sh a.2.1 a.2.2 R (nI t) p2 a.1) (nI b, Mx, Lx) = some (.inl (M', L')) ∧ ∃ s x d, s < 2 ^ nt ∧ BF (nA M nk nt none) s x d ∧ (0 < x t ↔ p2 = 0)) ∨ (lpf (fun a : Int32 × px_M × px_L => f_X12_isCorner_2 sh a.2.1 a.2.2 R (nI t) p2 a.1) (nI b, Mx, Lx) = some (.inr (M', L')) ∧ ¬ ∃ s x d, s < 2 ^ nt ∧ BF (nA M nk nt none) s x d ∧ (0 < x t ↔ p2 = 0)))
  | 0, b, Mx, Lx, hk, hE, hI => by
    obtain rfl : b = 2 ^ nt := by omega
    refine ⟨Mx, Lx, ⟨fun _ _ _ => rfl, fun _ _ _ => rfl⟩, Or.inr ⟨lpf_end ?_, hI⟩⟩
    show f_X12_isCorner_2 sh Mx Lx R (nI t) p2 (nI (2 ^ nt)) = _
    unfold f_X12_isCorner_2
    rw [hE 73 58 (by omega), hN.2.1.2.2.2, pow_s nt hN.1.2, if_pos (Int32.le_refl _)]
  | k + 1, b, Mx, Lx, hk, hE, hI => by
    have hnt := hN.1.2
    have h26 : 2 ^ nt ≤ 2 ^ 6 := Nat.pow_le_pow_right (by decide) hnt
    have hb : b < 2 ^ nt := by omega
    have hb64 : b < 64 := by omega
    have h58 : Mx 73 58 = nI nt := (hE 73 58 (by omega)).trans hN.2.1.2.2.2
    have hlt : ¬ nI (2 ^ nt) ≤ nI b := nI_ge hb (by omega)
    obtain ⟨z, M1, L1, g1, g2, g3, g4⟩ := m_solves (dr := none) hS hN hE hb (p2 := -1) (Or.inl ⟨rfl, rfl⟩) Lx
    have hO1 : OuR Mx Lx M1 L1 := ⟨g2, g3⟩
    have next : ∀ (hg : f_X12_isCorner_2 sh Mx Lx R (nI t) p2 (nI b) = some (.inl (nI (b + 1), M1, L1))) (hn : ¬ ∃ x d, BF (nA M nk nt none) b x d ∧ (0 < x t ↔ p2 = 0)), ∃ M' L', OuR Mx Lx M' L' ∧ ((lpf (fun a : Int32 × px_M × px_L => f_X12_isCorner_2 sh a.2.1 a.2.2 R (nI t) p2 a.1) (nI b, Mx, Lx) = some (.inl (M', L')) ∧ ∃ s x d, s < 2 ^ nt ∧ BF (nA M nk nt none) s x d ∧ (0 < x t ↔ p2 = 0)) ∨ (lpf (fun a : Int32 × px_M × px_L => f_X12_isCorner_2 sh a.2.1 a.2.2 R (nI t) p2 a.1) (nI b, Mx, Lx) = some (.inr (M', L')) ∧ ¬ ∃ s x d, s < 2 ^ nt ∧ BF (nA M nk nt none) s x d ∧ (0 < x t ↔ p2 = 0))) := by
      intro hg hn
      rw [lpf_go (body := fun a : Int32 × px_M × px_L => f_X12_isCorner_2 sh a.2.1 a.2.2 R (nI t) p2 a.1) (a := (nI b, Mx, Lx)) (a' := (nI (b + 1), M1, L1)) hg]
      obtain ⟨M', L', r1, r2⟩ := m_corners hS hN ht hp k (b + 1) M1 L1 (by omega) (hE.fr g2) (by
        rintro ⟨s, x, d, q1, q2, q3⟩
        by_cases e : s = b
        · subst e; exact hn ⟨x, d, q2, q3⟩
        · exact hI ⟨s, x, d, by omega, q2, q3⟩)
      exact ⟨M', L', hO1.tr r1, r2⟩
    rcases g4 with ⟨rfl, g4⟩ | ⟨rfl, g4, P, p1, p2', p3, p4, ab, un, hF⟩
    · refine next ?_ (fun ⟨x, d, q, _⟩ => g4 q.1)
      unfold f_X12_isCorner_2 f_X12_isCorner_43
      rw [h58, pow_s nt hnt, if_neg hlt, g1, bd1_e]
      dsimp only
      rw [if_pos rfl, nI_1]
    · have hd : ∀ s, (none : Option Nat) = some s → s < nt := fun s e => absurd e (by simp)
      obtain ⟨x, d, hBF, -, hB, hx⟩ := Fr_BF (fun k hk => nA_sp hN hk) (fun x => nA_6 hN hd x) hnt hb g4 p1 p2' p3 p4 (fun t ht => (hF t ht).2.2)
      obtain ⟨⟨x1, x2, x3⟩, x4, x5, x6⟩ := hx t ht
      have hd0 := hB.2.2.1
      have hxt := x5
      obtain ⟨q, hq1, hq2, hq3⟩ := fr_q x1 x2 x3 hd0 x5 x4
      have hiff : ab t = 0 ↔ ¬ 0 < x t := by
        constructor
        · intro e h
          rw [e, Int.zero_mul] at x4
          have := Int.mul_pos x1 h
          omega
        · intro e
          rw [show x t = 0 by omega, Int.mul_zero] at x4
          rcases Int.mul_eq_zero.mp x4 with q | q
          · exact q
          · omega
      have hr : rg (ab t) := by
        have := Int.mul_le_mul_of_nonneg_left (show 1 ≤ q by omega) x2
        exact ⟨by omega, by omega⟩
      have hlc : lg_cmp (L1 213 t) 0 = 0 ↔ ab t = 0 := by rw [(hF t ht).1]; exact lc_0 hr
      have hval : f_X12_isCorner_2 sh Mx Lx R (nI t) p2 (nI b) = if (if ab t = 0 then (1 : Int32) else 0) = p2 then some (.inr (.inl (M1, L1))) else some (.inl (nI (b + 1), M1, L1)) := by
        unfold f_X12_isCorner_2 f_X12_isCorner_37 f_X12_isCorner_43
        rw [h58, pow_s nt hnt, if_neg hlt, g1, bd1_e]
        dsimp only
        rw [if_neg (by decide), ok_t (ix_k (show t < 6 by omega) (by decide)), nI_clamp (show t < 2 ^ 31 by omega), nI_1]
        by_cases e : ab t = 0
        · rw [if_pos (hlc.mpr e), if_pos e]
        · rw [if_neg (fun z => e (hlc.mp z)), if_neg e]
      by_cases hc : 0 < x t ↔ p2 = 0
      · refine ⟨M1, L1, hO1, Or.inl ⟨lpf_end ?_, b, x, d, hb, hBF, hc⟩⟩
        show f_X12_isCorner_2 sh Mx Lx R (nI t) p2 (nI b) = _
        rw [hval, if_pos ?_]
        rcases hp with rfl | rfl
        · rw [if_neg (fun e => hiff.mp e (hc.mpr rfl))]
        · rw [if_pos (hiff.mpr (fun e => absurd (hc.mp e) (by decide)))]
      · refine next ?_ ?_
        · rw [hval, if_neg ?_]
          intro q
          apply hc
          rcases hp with rfl | rfl
          · by_cases e : ab t = 0
            · rw [if_pos e] at q; exact absurd q (by decide)
            · exact ⟨fun _ => rfl, fun _ => Classical.not_not.mp (fun z => e (hiff.mpr z))⟩
          · by_cases e : ab t = 0
            · exact ⟨fun z => absurd z (hiff.mp e), fun z => absurd z (by decide)⟩
            · rw [if_neg e] at q; exact absurd q (by decide)
        · rintro ⟨x', d', q1, q2⟩
          exact hc ((BF_pos hb64 hBF q1 (by omega)).trans q2)
end MC2
