/-! the class settles its net -/
/-- the answers of the net, as the class keeps them -/
def SeA (M : px_M) (nk nt : Nat) (Mx : px_M) (L : px_L) : Prop :=
  ((Mx 40 10 = 0 ∧ ∀ s, s < 2 ^ nt → ¬ Bal (nA M nk nt none) (Sx s (cl s).length)) ∨ (Mx 40 10 = 1 ∧ (∃ s, s < 2 ^ nt ∧ Bal (nA M nk nt none) (Sx s (cl s).length)) ∧ ∃ ea eb : Int, L 40 13 = lI ea ∧ L 40 14 = lI eb ∧ eaB ea eb ∧ Nat.gcd ea.natAbs eb.natAbs = 1 ∧ (∃ s x d, s < 2 ^ nt ∧ BF (nA M nk nt none) s x d ∧ ea * d = sN nt x * eb) ∧ ∀ s x d, s < 2 ^ nt → BF (nA M nk nt none) s x d → ea * d ≤ sN nt x * eb)) ∧
  (∀ t, t < nt → (((Mx 40 12 >>> (nI t &&& 31)) &&& 1 = 1) ↔ (∃ s x d, s < 2 ^ nt ∧ BF (nA M nk nt none) s x d ∧ 0 < x t) ∨ (Mx 40 10 = 1 ∧ Gr M nk nt t (2 ^ nt)))) ∧
  (∀ t, t < nt → (((Mx 40 11 >>> (nI t &&& 31)) &&& 1 = 1) ↔ ∃ s x d, s < 2 ^ nt ∧ BF (nA M nk nt none) s x d ∧ ¬ 0 < x t))
def NetC (M : px_M) (L : px_L) (nk nt : Nat) : Prop := M 40 9 ≠ 0 → SeA M nk nt M L
section ST
variable {sh : px_Sh} {M : px_M} {L : px_L} {R : px_R} {nk nt : Nat}
theorem c_settle (hS : SR sh R) (hN : NetS M nk nt) {bb : Nat → Nat} (hP : PerR sh R bb) (hC : NetC M L nk nt) :
    ∃ M' L' R' bb', f_X4_settle sh M L R = some (M', L', R') ∧ PerR sh R' bb' ∧ (∀ c j, ¬ (c = 40 ∧ ((9 ≤ j ∧ j ≤ 12) ∨ j = 16 ∨ j = 17)) → M' c j = M c j) ∧ (∀ a j, ¬ (49 ≤ a ∧ a ≤ 60) → ¬ (a = 40 ∧ (j = 13 ∨ j = 14 ∨ j = 18)) → L' a j = L a j) ∧ (∀ a j, a ≠ 48 → R' a j = R a j) ∧ M' 40 9 ≠ 0 ∧ SeA M nk nt M' L' := by
  unfold f_X4_settle
  by_cases h9 : M 40 9 = 0
  · rw [if_pos h9, nm_u, nm_u, nm_u, nm_u]
    obtain ⟨B, eB⟩ : ∃ B, B = px_u (px_u (px_u (px_u M 40 9 1) 40 10 0) 40 11 0) 40 12 0 := ⟨_, rfl⟩
    rw [← eB]
    have hB : ∀ c j, ¬ (c = 40 ∧ (9 ≤ j ∧ j ≤ 12)) → B c j = M c j := by
      intro c j q
      rw [eB, pu_n (by omega), pu_n (by omega), pu_n (by omega), pu_n (by omega)]
    have b9 : B 40 9 = 1 := by rw [eB]; simp (disch := omega) only [pu_n, px_u_in]
    have b10 : B 40 10 = 0 := by rw [eB]; simp (disch := omega) only [pu_n, px_u_in]
    have b11 : B 40 11 = 0 := by rw [eB]; simp (disch := omega) only [pu_n, px_u_in]
    have b12 : B 40 12 = 0 := by rw [eB]; simp (disch := omega) only [pu_n, px_u_in]
    have hNB : NetS B nk nt := hN.w fun c j q => hB c j (by omega)
    have hnt := hN.1.2
    have hA : nA B nk nt none = nA M nk nt none := nA_w fun c j h1 h2 => hB c j (by omega)
    have hI0 : SeI (nA B nk nt none) nt 0 B L := by
      refine ⟨Or.inl ⟨b10, fun s q => absurd q (by omega)⟩, fun t ht => ?_, fun t ht => ?_⟩
      · rw [b12]
        exact ⟨fun q => absurd q (b32_0 (by omega)), fun ⟨s, x, d, q, _⟩ => absurd q (by omega)⟩
      · rw [b11]
        exact ⟨fun q => absurd q (b32_0 (by omega)), fun ⟨s, x, d, q, _⟩ => absurd q (by omega)⟩
    obtain ⟨M1, L1, R1, bb1, g1, g2, g3, g4⟩ := c_sets (M := B) (L := L) (R := R) (nk := nk) hS hNB (2 ^ nt) 0 B L R bb (by omega) hP OuN.rfl' hI0
    rw [show ((0 : Int32), B, L, R) = (nI 0, B, L, R) from rfl, g1, bd1_e]
    dsimp only
    rw [hA] at g4
    have hN1 : NetS M1 nk nt := hNB.w fun c j q => g3.1 c j (by omega)
    have hM1 : ∀ c j, 192 ≤ c → c ≤ 198 → M1 c j = M c j := fun c j h1 h2 => (g3.1 c j (by omega)).trans (hB c j (by omega))
    have h2 : ∃ M2 L2 R2 bb2, lpf (fun a : Int32 × px_M × px_L × px_R => f_X4_settle_62 sh a.2.1 a.2.2.1 a.2.2.2 a.1) (0, M1, L1, R1) = some (M2, L2, R2) ∧ PerR sh R2 bb2 ∧ OuN M1 L1 R1 M2 L2 R2 ∧ (∀ j, j = 10 ∨ j = 11 → M2 40 j = M1 40 j) ∧ (∀ j, j = 13 ∨ j = 14 → L2 40 j = L1 40 j) ∧ ∀ u, u < nt → (((M2 40 12 >>> (nI u &&& 31)) &&& 1 = 1) ↔ ((M1 40 12 >>> (nI u &&& 31)) &&& 1 = 1) ∨ (M1 40 10 ≠ 0 ∧ Gr M nk nt u (2 ^ nt))) := by
      by_cases e : M1 40 10 = 0
      · refine ⟨M1, L1, R1, bb1, lpf_end ?_, g2, OuN.rfl', fun _ _ => rfl, fun _ _ => rfl, fun u hu => ⟨Or.inl, fun q => q.resolve_right fun q => q.1 e⟩⟩
        show f_X4_settle_62 sh M1 L1 R1 0 = _
        unfold f_X4_settle_62
        rw [if_pos e]
      · obtain ⟨M2, L2, R2, bb2, k1, k2, k3, k4, k5, k6⟩ := c_tauts (M := M1) (L := L1) (R := R1) (nk := nk) (SR_48 hS g3.2.2) hN1 e nt 0 M1 L1 R1 bb1 (by omega) g2 OuN.rfl' (fun _ _ => rfl) (fun _ _ => rfl) (fun u hu => ⟨Or.inl, fun q => q.resolve_right fun q => absurd q.1 (by omega)⟩)
        refine ⟨M2, L2, R2, bb2, k1, k2, k3, k4, k5, fun u hu => ?_⟩
        rw [k6 u hu, Gr_w hM1]
        exact ⟨fun q => q.imp id fun q => ⟨e, q⟩, fun q => q.imp id fun q => q.2⟩
    obtain ⟨M2, L2, R2, bb2, k1, k2, k3, k4, k5, k6⟩ := h2
    rw [k1, bd1_e]
    dsimp only
    have m10 := k4 10 (Or.inl rfl)
    have m11 := k4 11 (Or.inr rfl)
    have l13 := k5 13 (Or.inl rfl)
    have l14 := k5 14 (Or.inr rfl)
    obtain ⟨s1, s2, s3⟩ := g4
    obtain ⟨L3, r1, r2, r3⟩ := c_reduce (M := M2) (L := L2) (by
      rcases s1 with ⟨a1, -⟩ | ⟨a1, ea, eb, a2, a3, a4, -⟩
      · exact Or.inl (m10.trans a1)
      · exact Or.inr ⟨by rw [m10, a1]; decide, ea, eb, l13.trans a2, l14.trans a3, a4⟩)
    rw [r1, bd1_e]
    refine ⟨M2, L3, R2, bb2, rfl, k2, fun c j q => ?_, fun a j q1 q2 => ?_, fun a j q => ?_, ?_, ?_, fun t ht => ?_, fun t ht => ?_⟩
    · rw [k3.1 c j (by omega), g3.1 c j (by omega), hB c j (by omega)]
    · rw [r2 a j (by omega), k3.2.1 a j q1 q2, g3.2.1 a j q1 q2]
    · rw [k3.2.2 a j q, g3.2.2 a j q]
    · rw [k3.1 40 9 (by omega), g3.1 40 9 (by omega), b9]
      decide
    · rw [m10]
      rcases s1 with ⟨a1, a2⟩ | ⟨a1, ea, eb, a2, a3, a4, ⟨s, x, a5, a6, a7⟩, a8⟩
      · exact Or.inl ⟨a1, a2⟩
      · obtain ⟨a', b', c1, c2, c3, c4, c5⟩ := r3 ea eb (by rw [m10, a1]; decide) (l13.trans a2) (l14.trans a3) a4
        refine Or.inr ⟨a1, ⟨s, a5, a6.1⟩, a', b', c1, c2, c3, c4, ⟨s, x, eb, a5, a6, by rw [c5, a7]⟩, fun s' x' d' q1 q2 => ?_⟩
        exact fr_tr c3.2.2.1 a4.2.2.1 (Fo_d q2.2) (Int.le_of_eq c5) (a8 s' x' d' q1 q2)
    · rw [k6 t ht, s2 t ht, m10]
      rcases s1 with ⟨a1, -⟩ | ⟨a1, -⟩
      · rw [a1]
        exact ⟨fun q => q.imp id fun q => absurd rfl q.1, fun q => q.imp id fun q => absurd q.1 (by decide)⟩
      · rw [a1]
        exact ⟨fun q => q.imp id fun q => ⟨rfl, q.2⟩, fun q => q.imp id fun q => ⟨by decide, q.2⟩⟩
    · rw [m11]
      exact s3 t ht
  · rw [if_neg h9]
    exact ⟨M, L, R, bb, rfl, hP, fun _ _ _ => rfl, fun _ _ _ _ => rfl, fun _ _ _ => rfl, h9, hC h9⟩
end ST
