/-! the reference's solves, from the net's cells -/
section MS
variable {sh : px_Sh} {M Mx : px_M} {R : px_R} {nk nt : Nat} {dr : Option Nat}
theorem m_solves (hS : SR sh R) (hN : NetS M nk nt) (hE : eqM M Mx) {st : Nat} (hst : st < 2 ^ nt) {p2 : Int32} (hp2 : (dr = none ∧ p2 = -1) ∨ ∃ s, s < nt ∧ dr = some s ∧ p2 = nI s) (L : px_L) :
    ∃ z Mx' L', f_X12_solves sh Mx L R (nI st) p2 = some (z, Mx', L') ∧ (∀ c j, c ≠ 212 → Mx' c j = Mx c j) ∧ (∀ a j, a < 200 ∨ 214 < a ∨ a = 212 → L' a j = L a j) ∧
      ((z = 0 ∧ ¬ Bal (nA M nk nt dr) (Sx st (cl st).length)) ∨ (z = 1 ∧ Bal (nA M nk nt dr) (Sx st (cl st).length) ∧ ∃ P, PC (nA M nk nt dr) P (Sx st (cl st).length) ∧ P.Nodup ∧ (∀ r, r ∈ P → r < 12) ∧ (∀ r, r < 12 → dt (nA M nk nt dr) (6 :: Sx st (cl st).length) (r :: P) = 0) ∧ ∃ ab un : Nat → Int, ∀ t, t < nt → L' 213 t = lI (ab t) ∧ L' 214 t = lI (un t) ∧ Fr (nA M nk nt dr) st (cl st).length P t (ab t) (un t))) := by
  have hnt := hN.1.2
  have hst64 : st < 64 := Nat.lt_of_lt_of_le hst (Nat.pow_le_pow_right (by decide) hnt)
  have hd : ∀ s, dr = some s → s < nt := by
    intro s e
    rcases hp2 with ⟨d1, -⟩ | ⟨s', d0, d1, -⟩
    · rw [d1] at e; exact absurd e (by simp)
    · rw [d1] at e; obtain rfl := Option.some.inj e; exact d0
  have hk : ∀ k, k < 6 → Spa (nA M nk nt dr) k := fun k h => nA_sp hN h
  have h6 : ∀ x, (nA M nk nt dr x 6).natAbs ≤ 100 := fun x => nA_6 hN hd x
  obtain ⟨A, eA⟩ : ∃ A, A = nA M nk nt dr := ⟨_, rfl⟩
  obtain ⟨L1, w1, w2, w3⟩ := m_rowsW (dr := dr) hS hN hE hp2 L
  rw [← eA] at hk h6 w2 ⊢
  have e58 : Mx 73 58 = nI nt := by rw [hE 73 58 (by omega)]; exact hN.2.1.2.2.2
  have hcn := cl_n st hst64 nt (by omega) hst
  -- the columns
  have loop : ∀ (m s : Nat) (P : List Nat) (u : Nat) (T : Nat → Nat → Int) (Lx : px_L) (My : px_M), s + m = nt → RI A st s P u T Lx My → (∀ c j, c ≠ 212 → My c j = Mx c j) → (∀ a j, a < 200 ∨ 211 < a → Lx a j = L a j) →
      (∃ My' Ly, lpf (fun a : Int32 × Int32 × px_M × px_L => f_X12_solves_10 sh a.2.2.1 a.2.2.2 R (nI st) a.1 a.2.1) (nI u, nI s, My, Lx) = some (.inl (My', Ly)) ∧ (∀ c j, c ≠ 212 → My' c j = Mx c j) ∧ (∀ a j, a < 200 ∨ 211 < a → Ly a j = L a j) ∧ ¬ Bal A (Sx st (cl st).length)) ∨
      ∃ P' u' T' Ly My', lpf (fun a : Int32 × Int32 × px_M × px_L => f_X12_solves_10 sh a.2.2.1 a.2.2.2 R (nI st) a.1 a.2.1) (nI u, nI s, My, Lx) = some (.inr (nI u', My', Ly)) ∧ RI A st nt P' u' T' Ly My' ∧ (∀ c j, c ≠ 212 → My' c j = Mx c j) ∧ ∀ a j, a < 200 ∨ 211 < a → Ly a j = L a j := by
    intro m
    induction m with
    | zero =>
      intro s P u T Lx My hs hI x1 x2
      obtain rfl : s = nt := by omega
      right
      refine ⟨P, u, T, Lx, My, lpf_end ?_, hI, x1, x2⟩
      show f_X12_solves_10 sh My Lx R (nI st) (nI u) (nI s) = _
      unfold f_X12_solves_10
      rw [x1 73 58 (by omega), e58, if_pos (Int32.le_refl _)]
    | succ m ih =>
      intro s P u T Lx My hs hI x1 x2
      rcases m_solve1 hS hk h6 hnt hst (s := s) (by omega) (by rw [x1 73 58 (by omega)]; exact e58) hI with ⟨g1, g2, g3⟩ | ⟨P', u', T', L', My', g1, g2, g3, g4⟩
      · left
        refine ⟨My, Lx, lpf_end (body := fun a : Int32 × Int32 × px_M × px_L => f_X12_solves_10 sh a.2.2.1 a.2.2.2 R (nI st) a.1 a.2.1) (a := (nI u, nI s, My, Lx)) g1, x1, x2, ?_⟩
        obtain ⟨k1, k2⟩ := (cl_t st hst64).2.2.1 s (by omega) g2
        obtain ⟨S1, e⟩ := Sx_app st (c := cN st s + 1) ((cl st).length - (cN st s + 1))
        rw [show cN st s + 1 + ((cl st).length - (cN st s + 1)) = (cl st).length by omega] at e
        rw [e]
        show ¬ Bal A (S1 ++ kap st (cN st s) :: Sx st (cN st s))
        rw [show kap st (cN st s) = s from k1]
        refine Bal_stuck A hI.1.2.2.2 fun r hr => ?_
        by_cases q : r ∈ P
        · exact W_piv A hI.1.2.2.2 q s
        · exact g3 r hr q
      · rw [lpf_go (body := fun a : Int32 × Int32 × px_M × px_L => f_X12_solves_10 sh a.2.2.1 a.2.2.2 R (nI st) a.1 a.2.1) (a := (nI u, nI s, My, Lx)) g1]
        exact ih (s + 1) P' u' T' L' My' (by omega) g2 (fun c j h => (g3 c j (fun z => h z.1)).trans (x1 c j h)) (fun a j h => (g4 a j h).trans (x2 a j h))
  have hI0 : RI A st 0 [] 0 A L1 Mx := by
    refine ⟨⟨List.nodup_nil, fun r hr => absurd hr (by simp), rfl, trivial⟩, ⟨by decide, fun i _ => by simp⟩, w2, fun x hx => ⟨⟨1, 1, by decide, by decide, fun k _ => ?_⟩, Or.inl fun _ _ => rfl⟩, fun t ht => absurd ht (by omega)⟩
    show 1 * Vv A st 0 [] x k = 1 * A x k
    unfold Vv
    rw [if_neg (by simp)]
    show 1 * dt A [k] [x] = _
    rw [dt_11]
  unfold f_X12_solves
  rw [w1, bd1_e, show ((0, 0, Mx, L1) : Int32 × Int32 × px_M × px_L) = (nI 0, nI 0, Mx, L1) from rfl]
  rcases loop nt 0 [] 0 A L1 Mx (by omega) hI0 (fun _ _ _ => rfl) (fun a j h => w3 a j h) with ⟨My, Ly, g1, g2, g3, g4⟩ | ⟨P, u, T, Ly, My, g1, g2, g3, g4⟩
  · rw [bdS_l g1]
    exact ⟨0, My, Ly, rfl, g2, fun a j h => g3 a j (by omega), Or.inl ⟨rfl, g4⟩⟩
  · rw [bdS_r g1]
    dsimp only
    have hRI := g2
    obtain ⟨⟨p1, p2, p3, p4⟩, ⟨u1, u2⟩, hL, hPR, hpv⟩ := g2
    rw [hcn] at p3 p4 hPR
    have hl6 := (cl_t st hst64).2.1
    have hr6 : ∀ x, x < 12 → rg (T x 6) := fun x hx => rg_n ((row_b hk h6 hst64 (Nat.le_refl _) p1 p3 (hPR x hx).1 (hPR x hx).2 (Nat.le_refl 6)).2 rfl).1 (by decide)
    have hz : ∀ x, x < 12 → ¬ x ∈ P → (T x 6 = 0 ↔ dt A (6 :: Sx st (cl st).length) (x :: P) = 0) := by
      intro x hx hxP
      obtain ⟨a, b, a0, b0, hab⟩ := (hPR x hx).1
      have := hab 6 (Or.inl rfl)
      unfold Vv at this
      rw [if_neg hxP] at this
      constructor
      · intro e
        rw [e, Int.mul_zero] at this
        exact (Int.mul_eq_zero.mp this).resolve_left b0
      · intro e
        rw [e, Int.mul_zero] at this
        exact (Int.mul_eq_zero.mp this.symm).resolve_left a0
    have hbit0 : ∀ i, i < 12 → ((nI u >>> (nI i &&& 31)) &&& 1 = 0 ↔ ¬ i ∈ P) := by
      intro i hi
      rw [bit1 (show u < 2 ^ 31 by omega) (show i < 32 by omega), ← u2 i hi, tb_iff]
      rcases Nat.mod_two_eq_zero_or_one (u / 2 ^ i) with e | e
      · rw [e]; simp; rfl
      · rw [e]; simp; decide
    have F := lpf_find (body := fun a : Int32 => f_X12_solves_271 sh My Ly R (nI st) (nI u) a) (fun i => nI i) 12 (fun i => ¬ i ∈ P ∧ T i 6 ≠ 0) (fun _ => .inl ()) (.inr ())
      (fun i hi hc => by
        obtain ⟨r1, r2⟩ := R199 hS hi
        show f_X12_solves_271 sh My Ly R (nI st) (nI u) (nI i) = _
        unfold f_X12_solves_271 f_X12_solves_304
        rw [if_neg (show ¬ 12 ≤ nI i from nI_ge (b := 12) hi (by decide)), ifi (hbit0 i hi), nI_1]
        by_cases e : i ∈ P
        · rw [if_neg (fun z => z e)]
        · rw [if_pos e, ok_t (ix_k hi (by decide)), nI_clamp (show i < 2 ^ 31 by omega), r1, bd1_e, ok_t (xk_t r2 (show ix 6 7 = true by decide)), show (6 : Int32).toNatClampNeg = 6 from rfl, hL i hi 6 (by omega), if_pos ((lc_0 (hr6 i hi)).mpr (Classical.not_not.mp fun z => hc ⟨e, z⟩))])
      (fun i hi hc => by
        obtain ⟨r1, r2⟩ := R199 hS hi
        show f_X12_solves_271 sh My Ly R (nI st) (nI u) (nI i) = _
        unfold f_X12_solves_271 f_X12_solves_304
        rw [if_neg (show ¬ 12 ≤ nI i from nI_ge (b := 12) hi (by decide)), ifi (hbit0 i hi), if_pos hc.1, ok_t (ix_k hi (by decide)), nI_clamp (show i < 2 ^ 31 by omega), r1, bd1_e, ok_t (xk_t r2 (show ix 6 7 = true by decide)), show (6 : Int32).toNatClampNeg = 6 from rfl, hL i hi 6 (by omega), if_neg (fun z => hc.2 ((lc_0 (hr6 i hi)).mp z))])
      (by
        show f_X12_solves_271 sh My Ly R (nI st) (nI u) (nI 12) = _
        unfold f_X12_solves_271
        rw [if_pos (by decide)]) 12 0 (by omega)
    have hiff := Bal_iff A p4 p2
    rcases F with ⟨F1, F2⟩ | ⟨q, q1, q2, q3, q4, F1⟩
    · rw [show (0 : Int32) = nI 0 from rfl, bdS_r F1]
      have hall : ∀ r, r < 12 → dt A (6 :: Sx st (cl st).length) (r :: P) = 0 := by
        intro r hr
        by_cases e : r ∈ P
        · exact W_piv A p4 e 6
        · exact (hz r hr e).mp (Classical.not_not.mp fun z => F2 r (by omega) hr ⟨e, z⟩)
      obtain ⟨z, L', f1, f2, f3⟩ := m_frac hS hk h6 hnt hst (by rw [g3 73 58 (by omega)]; exact e58) hRI
      rw [show ((nI 0, Ly) : Int32 × px_L) = (0, Ly) from rfl, show nI 0 = 0 from rfl, f1]
      refine ⟨z, My, L', rfl, g3, fun a j h => ?_, ?_⟩
      · rw [f2 a j (by omega) (by omega)]
        exact g4 a j (by omega)
      · rcases f3 with ⟨rfl, j, j1, j2⟩ | ⟨rfl, ab, un, f4⟩
        · refine Or.inl ⟨rfl, fun hB => ?_⟩
          have := (hiff.mp hB).2 j (by rw [Sx_len]; exact j1)
          omega
        · refine Or.inr ⟨rfl, hiff.mpr ⟨hall, fun j hj => ?_⟩, P, p4, p1, p2, hall, ab, un, f4⟩
          rw [Sx_len] at hj
          obtain ⟨k1, k2, k3⟩ := (cl_t st hst64).2.2.2 ((cl st).length - 1 - j) (by omega)
          have hlt : (cl st).getD ((cl st).length - 1 - j) 6 < nt := by
            by_cases e : (cl st).getD ((cl st).length - 1 - j) 6 < nt
            · exact e
            · rw [Nat.testBit_lt_two_pow (Nat.lt_of_lt_of_le hst (Nat.pow_le_pow_right (by decide) (by omega)))] at k2
              exact absurd k2 (by decide)
          obtain ⟨-, -, ⟨y1, y2, -⟩, y3, -⟩ := f4 _ hlt
          have y4 := y3 k2
          rw [k3, show (cl st).length - 1 - ((cl st).length - 1 - j) = j by omega] at y4
          have hD := PC_d A p4
          obtain ⟨U, eU⟩ : ∃ U, U = Uj A (Sx st (cl st).length) P j 6 := ⟨_, rfl⟩
          obtain ⟨D, eD⟩ : ∃ D, D = dt A (Sx st (cl st).length) P := ⟨_, rfl⟩
          rw [← eU, ← eD] at y4 ⊢
          rw [← eD] at hD
          by_cases q : 0 ≤ U * D
          · exact q
          · exfalso
            have z1 := Int.mul_neg_of_pos_of_neg y1 (show U * D < 0 by omega)
            rw [← Int.mul_assoc, ← y4, Int.mul_assoc] at z1
            have z2 : 0 ≤ D * D := by
              rcases Int.lt_or_gt_of_ne hD with h | h
              · exact Int.le_of_lt (Int.mul_pos_of_neg_of_neg h h)
              · exact Int.le_of_lt (Int.mul_pos h h)
            have := Int.mul_nonneg y2 z2
            omega
    · rw [show (0 : Int32) = nI 0 from rfl, bdS_l F1]
      refine ⟨nI 0, My, Ly, rfl, g3, fun a j h => g4 a j (by omega), Or.inl ⟨rfl, fun hB => ?_⟩⟩
      exact q3.2 ((hz q q2 q3.1).mpr ((hiff.mp hB).1 q q2))
end MS
