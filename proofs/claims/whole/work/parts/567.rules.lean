/-! rules: both read the tape -/
/-- the rules that stand, in both -/
def RuI (M : px_M) (R : px_R) (A B : Nat) (tx : Nat → Nat) (n : Nat) (L : List Rul) : Prop :=
  ((A = 22 ∧ B = 68) ∨ (A = 68 ∧ B = 22)) ∧ (R 0 7 = some A ∧ R 20 10 = some B) ∧ M 20 9 = M 73 38 ∧ (n ≤ 300 ∧ (∀ i, i < n → M 178 i = nI (tx i) ∧ tx i < 256) ∧ M 73 37 = nI n) ∧ (M 73 36 = nI L.length ∧ M A 5 = nI L.length ∧ L.length ≤ 16) ∧ (pRules tx n 17 (bl tx n 0) 0 = .inl L ∧ RuG n L ∧ (cdsL L).length ≤ 300) ∧ (∀ j, j < (cdsL L).length → M (A + 1) j = (cdsL L).getD j 0) ∧ ∀ i, i < L.length → M (A + 2) i = nI (enL L i) ∧ M (A + 3) i = nI (stL L i)
def Iru (M : px_M) (R : px_R) : Prop := ∃ A B tx n L, RuI M R A B tx n L
theorem RuI.fr {sh : px_Sh} {M M' : px_M} {R R' : px_R} {A B n : Nat} {tx : Nat → Nat} {L : List Rul} (h : RuI M R A B tx n L) (hM : sm_ sh 4 M M') (hR : sm_ sh 4 R R') : RuI M' R' A B tx n L := by
  obtain ⟨h1, h2, h3, h4, h5, h6, h7, h8⟩ := h
  have hA : ∀ k, k ≤ 3 → ∀ j, M' (A + k) j = M (A + k) j := by
    intro k hk j
    obtain rfl | rfl | rfl | rfl : k = 0 ∨ k = 1 ∨ k = 2 ∨ k = 3 := by omega
    all_goals (rcases h1 with ⟨rfl, -⟩ | ⟨rfl, -⟩ <;> exact hM _ j rfl)
  refine ⟨h1, ?_, ?_, ⟨h4.1, fun i hi => ?_, ?_⟩, ⟨?_, ?_, h5.2.2⟩, h6, fun j hj => ?_, fun i hi => ?_⟩
  · rw [hR 0 7 rfl, hR 20 10 rfl]; exact h2
  · rw [hM 20 9 rfl, hM 73 38 rfl]; exact h3
  · rw [hM 178 i rfl]; exact h4.2.1 i hi
  · rw [hM 73 37 rfl]; exact h4.2.2
  · rw [hM 73 36 rfl]; exact h5.1
  · rw [show M' A 5 = M A 5 from hA 0 (by decide) 5]; exact h5.2.1
  · rw [hA 1 (by decide)]; exact h7 j hj
  · rw [hA 2 (by decide), hA 3 (by decide)]; exact h8 i hi
/-- the values of the seven words, for the reference -/
def NmI (sh : px_Sh) (M : px_M) (vals : Nat → Int32) : Prop := ∀ M' : px_M, (∀ c j, 73 ≤ c → c ≤ 218 → md sh c j = 2 ∨ md sh c j = 3 → M' c j = M c j) → ∀ k, k < 7 → f_X12_named M' (nI k) = some (vals k)
theorem cs_init {A b0 : Nat} (hA : A ≠ 20) (hb : b0 ≠ 20) (hAb : A ≠ b0) (M : px_M) (v : Int32) : px_u (px_u (px_u (px_u (px_u (px_u (px_u (px_u M 20 2 v) 20 1 0) A 4 0) A 5 0) 20 4 0) 20 7 0) 20 8 0) 20 9 (-1) = csM (px_u (px_u (px_u M 20 2 v) 20 1 0) A 5 0) A b0 [] (M 20 3) (nI 0) (M 20 5) (M 20 6) (nI 0) 0 (-1) := by
  funext c j
  by_cases h1 : c = 20
  · subst h1
    have hA' : (20 : Nat) ≠ A := fun z => hA z.symm
    unfold csM px_u
    simp only [hA', false_and, if_false, true_and, if_true]
    by_cases j1 : j = 9
    · subst j1; rfl
    · by_cases j2 : j = 8
      · subst j2; rfl
      · by_cases j3 : j = 7
        · subst j3; rfl
        · by_cases j4 : j = 4
          · subst j4; rfl
          · by_cases j5 : j = 3
            · subst j5; rfl
            · by_cases j6 : j = 5
              · subst j6; rfl
              · by_cases j7 : j = 6
                · subst j7; rfl
                · simp [j1, j2, j3, j4, j5, j6, j7]
  · unfold csM
    rw [if_neg h1, pu_n (fun z => h1 z.1), pu_n (fun z => h1 z.1), pu_n (fun z => h1 z.1), pu_n (fun z => h1 z.1)]
    by_cases h2 : c = b0
    · subst h2
      rw [if_pos rfl, if_neg (by simp), pu_n (fun z => hAb z.1.symm), pu_n (fun z => hAb z.1.symm), pu_n (fun z => hAb z.1.symm)]
    · rw [if_neg h2]
      by_cases h3 : c = A
      · subst h3
        rw [if_pos rfl]
        by_cases j4 : j = 4
        · subst j4
          rw [if_pos rfl, pu_n (by omega), px_u_in]; rfl
        · rw [if_neg j4]
          by_cases j5 : j = 5
          · subst j5
            rw [px_u_in, px_u_in]
          · rw [pu_n (fun z => j5 z.2), pu_n (fun z => j4 z.2), pu_n (fun z => j5 z.2)]
      · rw [if_neg h3, pu_n (fun z => h3 z.1), pu_n (fun z => h3 z.1), pu_n (fun z => h3 z.1)]
theorem rs_init (M : px_M) : px_u (px_u (px_u (px_u (px_u (px_u (px_u M 73 78 0) 73 80 0) 73 81 0) 73 82 (-1)) 73 85 0) 73 83 (-1)) 73 84 1 = rsM (rhM M (-1) 1 (nI 0)) (nI 0) (nI 0) 0 (-1) := by
  funext c j
  unfold rsM rhM px_u
  by_cases h1 : c = 73
  · subst h1
    simp only [true_and, if_true]
    by_cases j1 : j = 84
    · subst j1; rfl
    · by_cases j2 : j = 83
      · subst j2; rfl
      · by_cases j3 : j = 85
        · subst j3; rfl
        · by_cases j4 : j = 82
          · subst j4; rfl
          · by_cases j5 : j = 81
            · subst j5; rfl
            · by_cases j6 : j = 80
              · subst j6; rfl
              · by_cases j7 : j = 78
                · subst j7; rfl
                · simp [j1, j2, j3, j4, j5, j6, j7]
  · simp [h1]
theorem pRule_b {tx : Nat → Nat} {n : Nat} (ht : ∀ i, i < n → tx i < 256) {p k : Nat} (hk : k < 17) {t : Nat × Rul} (h : pRule tx n p k = .inl t) (hp : p ≤ n) : t.1 ≤ n ∧ k < 16 := by
  unfold pRule at h
  by_cases c1 : 300 ≤ kd tx n p ∧ kd tx n p ≤ 302
  · rw [if_pos c1] at h
    by_cases c2 : k = 16
    · rw [if_pos c2] at h
      exact absurd h (by simp)
    · rw [if_neg c2] at h
      by_cases c3 : kd tx n (tk tx n p) = 303
      · rw [if_pos c3] at h
        have hG := GdpC ht 6 (tk_le (tx := tx) (tk_le (tx := tx) hp))
        revert h hG
        generalize pChoice tx n (pT tx n 6) (tk tx n (tk tx n p)) = r1
        intro h hG
        match r1, h, hG with
        | .inr e, h, _ => exact absurd h (by simp)
        | .inl (q, c, v), h, hG =>
          dsimp only at h
          by_cases c4 : kd tx n q = 59
          · rw [if_pos c4] at h
            obtain rfl := Sum.inl.inj h
            exact ⟨tk_le hG.2.1, by omega⟩
          · rw [if_neg c4] at h
            exact absurd h (by simp)
      · rw [if_neg c3] at h
        exact absurd h (by simp)
  · rw [if_neg c1] at h
    exact absurd h (by simp)
/-- the reference reads all its text -/
theorem m_readAll {tx : Nat → Nat} {n : Nat} {M0 : px_M} {vals : Nat → Int32} (hI : RqI tx n M0 vals) : ∃ M', f_X12_readAll M0 = some M' ∧ match pRules tx n 17 (bl tx n 0) 0 with
      | .inl L => ∃ a, M' = rsM (rhM M0 (hlF vals L 0 (-1, 1)).1 (hlF vals L 0 (-1, 1)).2 (nI L.length)) a (nI 0) 0 (-1)
      | .inr e => (e.1 = 1 ∨ e.1 = 2 ∨ e.1 = 3) ∧ ∃ h' s' k' a o, M' = rsM (rhM M0 h' s' k') a o (nI e.1) (nI e.2) := by
  have h300 := hI.1
  obtain ⟨M', k1, k2⟩ := m_rules hI 17 0 (bl tx n 0) (-1) 1 (by omega) (by omega) (bl_le (by omega)) (bl_bl h300 0) (fun k' p' hk t h hp => pRule_b (hI.r 0 0 0).bx hk h hp)
  refine ⟨M', ?_, ?_⟩
  · unfold f_X12_readAll
    rw [nm_u, nm_u, nm_u, nm_u, nm_u, nm_u, nm_u, rs_init, m_blanks (hI.r _ _ _) (by omega), bd1_e, k1, bd1_e]
  · revert k2
    generalize pRules tx n 17 (bl tx n 0) 0 = r
    intro k2
    match r, k2 with
    | .inr e, k2 => exact k2
    | .inl L, k2 =>
      obtain ⟨a, ha⟩ := k2
      rw [Nat.zero_add] at ha
      exact ⟨a, ha⟩
theorem rs_out {M0 : px_M} {a o f g h s k : Int32} {c j : Nat} (hn : ¬ (c = 73 ∧ 78 ≤ j ∧ j ≤ 85 ∧ j ≠ 79)) : rsM (rhM M0 h s k) a o f g c j = M0 c j := by
  unfold rsM rhM
  by_cases e : c = 73
  · subst e
    rw [if_pos rfl, if_pos rfl, if_neg (by omega), if_neg (by omega), if_neg (by omega), if_neg (by omega), if_neg (by omega), if_neg (by omega), if_neg (by omega)]
  · rw [if_neg e, if_neg e]
theorem cs_out {M0 Mb : px_M} {A b0 b1 b2 : Nat} {C : List Int32} {a x k u o m l : Int32} (hf : RBf M0 A b1 b2 Mb) {c j : Nat} (h1 : ¬ (c = 20 ∧ 3 ≤ j ∧ j ≤ 9)) (h2 : c ≠ b0) (h3 : c ≠ A) (h4 : c ≠ b1) (h5 : c ≠ b2) : csM Mb A b0 C a x k u o m l c j = M0 c j := by
  unfold csM
  by_cases e : c = 20
  · subst e
    rw [if_pos rfl, if_neg (by omega), if_neg (by omega), if_neg (by omega), if_neg (by omega), if_neg (by omega), if_neg (by omega), if_neg (by omega)]
    exact hf 20 j (fun z => h3 z.1) h4 h5
  · rw [if_neg e, if_neg h2, if_neg h3]
    exact hf c j (fun z => h3 z.1) h4 h5
section RULES
variable {sh : px_Sh} {M : px_M} {R : px_R}
theorem p_rules (hS : SR sh R) (hT : TapeI M) (hU : Iru M R) {vals : Nat → Int32} (hN : NmI sh M vals) (p1 : Int32) :
    (∃ r M1 R1 M2, f_X11_rules sh M R p1 = some (.inl (r, M1, R1)) ∧ f_X12_rules M1 p1 = some (r, M2) ∧ M2 73 0 = 0 ∧ kp sh [4] M M2 ∧ (∀ c j, ¬ (c = 0 ∧ j = 7) → ¬ (c = 20 ∧ j = 10) → R1 c j = R c j) ∧ TapeI M2 ∧ Iru M2 R1) ∨ (f_X11_rules sh M R p1 = some (.inr 0) ∧ f_X12_rules M p1 = some (0, px_t M 1)) := by
  obtain ⟨t, t1, t2, t3, t4⟩ := hT
  have hin : f_X11_within p1 0 (M 20 1) = some (bI (0 ≤ p1 ∧ p1 ≤ nI t)) := by rw [t2]; exact e_within _ _ _
  by_cases hp : 0 ≤ p1 ∧ p1 ≤ nI t
  · left
    obtain ⟨n, hn, rfl⟩ := nI_of2 (n := t) (nI_toInt (by omega)) (Int32.not_lt.mpr hp.1) hp.2
    have hU0 := hU
    obtain ⟨A, B, txo, no, Lo, h1, h2, h3, h4, h5, h6, h7, h8⟩ := hU
    obtain ⟨tx, htx⟩ : ∃ tx : Nat → Nat, ∀ i, i < t → M 177 i = nI (tx i) ∧ tx i < 256 := by
      refine ⟨fun i => (M 177 i).toNatClampNeg, fun i hi => ?_⟩
      obtain ⟨b, hb, e⟩ := (t4 i hi).2
      show M 177 i = nI (M 177 i).toNatClampNeg ∧ (M 177 i).toNatClampNeg < 256
      rw [e, nI_clamp (by omega)]
      exact ⟨rfl, hb⟩
    obtain ⟨M0, eM0⟩ : ∃ M0, M0 = px_u (px_u (px_u M 20 2 (nI n)) 20 1 0) B 5 0 := ⟨_, rfl⟩
    have hB20 : B ≠ 20 ∧ B ≠ 21 ∧ B ≠ 177 ∧ B ≠ 178 := by omega
    have hBs : sh B = some (7, 0) ∧ R B 0 = some (B + 1) ∧ R B 1 = some (B + 2) ∧ R B 2 = some (B + 3) ∧ sh (B + 1) = some (13, 300) ∧ sh (B + 2) = some (13, 16) ∧ sh (B + 3) = some (13, 16) := by
      rcases h1 with ⟨-, rfl⟩ | ⟨-, rfl⟩
      · exact ⟨sc_68 hS, rr_68_0 hS, rr_68_1 hS, rr_68_2 hS, sc_69 hS, sc_70 hS, sc_71 hS⟩
      · exact ⟨sc_22 hS, rr_22_0 hS, rr_22_1 hS, rr_22_2 hS, sc_23 hS, sc_24 hS, sc_25 hS⟩
    obtain ⟨s1, s2, s3, s4, s5, s6, s7⟩ := hBs
    have hCr : CrI tx n sh R M0 B (B + 1) := by
      refine ⟨by omega, fun i hi => ?_, ?_, ⟨by omega, by omega, by omega, by omega, by omega⟩, s1, s2, s5, h2.2⟩
      · rw [eM0, pu_n (by omega), pu_n (by omega), pu_n (by omega), (t4 i (by omega)).1]
        exact htx i (by omega)
      · rw [eM0, pu_n (by omega), pu_n (by omega), px_u_in]
    have hCu : CuI sh R B (B + 1) (B + 2) (B + 3) := ⟨s3, s4, s6, s7, ⟨by omega, by omega, by omega, by omega⟩, by omega, by omega, by omega, by omega, by omega⟩
    have hRB0 : RB M0 B (B + 2) (B + 3) [] M0 := ⟨by rw [eM0, px_u_in]; rfl, fun j hj => absurd hj (by simp), fun _ _ _ _ _ => rfl⟩
    obtain ⟨u1, g1, g2⟩ : ∃ u', okN tx n (bl tx n 0) u' ∧ f_X6_scan (csM M0 B (B + 1) [] (M 20 3) (nI 0) (M 20 5) (M 20 6) (nI 0) 0 (-1)) = some (csM M0 B (B + 1) [] (nI (bl tx n 0)) (nI (nx tx n (bl tx n 0))) (nI (kd tx n (bl tx n 0))) u' (nI 0) 0 (-1)) := ⟨_, fun e => if_pos e, c_scan hCr.1 hCr.2.1 hCr.2.2.1 hCr.2.2.2.1.2.2.1 hCr.2.2.2.1.2.2.2.1 (by omega)⟩
    obtain ⟨Mc, g3, g4⟩ := c_rules hCr hCu 17 [] M0 (bl tx n 0) u1 rfl hRB0 (by simp) (bl_le (by omega)) (by simp [cdsL]) g1
    have hread : f_X6_readTape sh M R (nI n) = some Mc := by
      unfold f_X6_readTape f_X7_forget
      rw [e_min, t2, bd1_e, if_neg (show ¬ nI t < nI n from nI_nlt hn (by omega)), nm_u, nm_u, h2.2, bd1_e, ok_t (hk_t s1), ok_t (hk_t s1), nm_u, ok_t (hk_t s1), nm_u, bd1_e, nm_u, nm_u, nm_u, nm_u, cs_init (b0 := B + 1) (by omega) (by omega) (by omega), ← eM0, g2, bd1_e, show (0 : Int32) = nI ([] : List Rul).length from rfl]
      rw [show csM M0 B (B + 1) [] (nI (bl tx n 0)) (nI (nx tx n (bl tx n 0))) (nI (kd tx n (bl tx n 0))) u1 (nI 0) (nI ([] : List Rul).length) (-1) = csM M0 B (B + 1) (cdsL []) (nI (bl tx n 0)) (nI (nx tx n (bl tx n 0))) (nI (kd tx n (bl tx n 0))) u1 (nI 0) 0 (-1) from rfl, g3, bd1_e]
    -- what stays in the class's memory
    have hMc : ∀ c j, ¬ (c = 20 ∧ 1 ≤ j ∧ j ≤ 9) → c ≠ B → c ≠ B + 1 → c ≠ B + 2 → c ≠ B + 3 → Mc c j = M c j := by
      intro c j q1 q2 q3 q4 q5
      have e0 : M0 c j = M c j := by rw [eM0, pu_n (fun z => q2 z.1), pu_n (by omega), pu_n (by omega)]
      have e1 : ∀ (Mb : px_M) (C : List Int32) (a x k u o m l : Int32), RBf M0 B (B + 2) (B + 3) Mb → csM Mb B (B + 1) C a x k u o m l c j = M0 c j := fun Mb C a x k u o m l hf => cs_out hf (by omega) q3 q2 q4 q5
      revert g4
      generalize pRules tx n 17 (bl tx n 0) ([] : List Rul).length = r
      intro g4
      match r, g4 with
      | .inr e, g4 =>
        obtain ⟨-, -, Mb', C', a', x', k', u', o', q, rfl⟩ := g4
        rw [e1 _ _ _ _ _ _ _ _ _ q, e0]
      | .inl L', g4 =>
        obtain ⟨-, -, -, a', x', k', u', Mb', q, rfl⟩ := g4
        rw [e1 _ _ _ _ _ _ _ _ _ q.2.2, e0]
    have hc35 : Mc 73 35 = nI t := by rw [hMc 73 35 (by omega) (by omega) (by omega) (by omega) (by omega)]; exact t3
    -- the reference
    obtain ⟨M3, eM3⟩ : ∃ M3, M3 = px_u (px_u (px_u Mc 73 0 0) 73 77 0) 73 79 (nI n) := ⟨_, rfl⟩
    have hM3 : ∀ c j, ¬ (c = 73 ∧ (j = 0 ∨ j = 77 ∨ j = 79)) → M3 c j = Mc c j := by
      intro c j q
      rw [eM3, pu_n (by omega), pu_n (by omega), pu_n (by omega)]
    have hRq : RqI tx n M3 vals := by
      refine ⟨by omega, by rw [eM3, px_u_in], fun i hi => ?_, fun M' hM' k hk => hN M' (fun c j _ _ hm => ?_) k hk⟩
      · rw [if_pos (by rw [eM3, pu_n (by omega), px_u_in]), hM3 177 i (by omega), hMc 177 i (by omega) (by omega) (by omega) (by omega) (by omega)]
        exact htx i (by omega)
      · have hne : ¬ (c = 73 ∧ (j = 0 ∨ 77 ≤ j ∧ j ≤ 85)) := by
          rintro ⟨rfl, q⟩
          have : md sh 73 j = mdf j := rfl
          rw [this] at hm
          have hz : mdf j = 0 := by
            rcases q with rfl | q
            · rfl
            · unfold mdf
              rw [if_neg (by omega), if_neg (by omega), if_neg (by omega), if_neg (by omega), if_neg (by omega), if_neg (by omega), if_neg (by omega), if_neg (by omega), if_neg (by omega), if_neg (by omega), if_neg (by omega), if_neg (by omega), if_neg (by omega), if_neg (by omega)]
          rw [hz] at hm
          omega
        have hcc : c ≠ 20 ∧ c ≠ B ∧ c ≠ B + 1 ∧ c ≠ B + 2 ∧ c ≠ B + 3 := by
          refine ⟨?_, ?_, ?_, ?_, ?_⟩
          all_goals (rintro rfl; rcases h1 with ⟨-, rfl⟩ | ⟨-, rfl⟩ <;> exact hm.elim (fun z => absurd (show (4 : Nat) = 2 from z) (by decide)) (fun z => absurd (show (4 : Nat) = 3 from z) (by decide)))
        rw [hM' c j (by omega), hM3 c j (by omega), hMc c j (by omega) hcc.2.1 hcc.2.2.1 hcc.2.2.2.1 hcc.2.2.2.2]
    obtain ⟨Mr, g5, g6⟩ := m_readAll hRq
    have hMr : ∀ c j, ¬ (c = 73 ∧ 78 ≤ j ∧ j ≤ 85 ∧ j ≠ 79) → Mr c j = M3 c j := by
      intro c j q
      revert g6
      generalize pRules tx n 17 (bl tx n 0) 0 = r
      intro g6
      match r, g6 with
      | .inr e, g6 =>
        obtain ⟨-, h', s', k', a', o', rfl⟩ := g6
        exact rs_out q
      | .inl L', g6 =>
        obtain ⟨a', rfl⟩ := g6
        exact rs_out q
    have href : f_X12_rules Mc (nI n) = (if (px_u (px_u Mr 73 35 0) 73 38 ((px_u Mr 73 35 0) 73 82)) 73 81 = 0 then
      bd1 (lpf (fun a : Int32 × px_M => f_X12_rules_76 a.2 (nI n) a.1) (0, px_u (px_u Mr 73 35 0) 73 38 ((px_u Mr 73 35 0) 73 82))) fun e_76 =>
      nm (px_u e_76 73 37 (nI n)) fun M_101 =>
      nm (M_101 73 85) fun v_109 =>
      nm (px_u M_101 73 36 v_109) fun M_109 =>
      some ((M_109 73 36), M_109)
    else
      some (((px_u (px_u Mr 73 35 0) 73 38 ((px_u Mr 73 35 0) 73 82)) 73 81 - 10), px_u (px_u Mr 73 35 0) 73 38 ((px_u Mr 73 35 0) 73 82))) := by
      have e35 : (px_u Mc 73 0 0) 73 35 = nI t := by rw [pu_n (by omega)]; exact hc35
      unfold f_X12_rules f_X12_rules_23
      rw [nm_u, e35, e_in, bI_t ⟨hp.1, hp.2⟩, bd1_e, if_neg (by decide), e_bf, bd1_e, if_pos rfl, nm_u, nm_u, ← eM3, g5, bd1_e, nm_u, nm_u, nm_u]
    have h82 : (px_u Mr 73 35 0) 73 82 = Mr 73 82 := pu_n (by omega)
    rw [h82] at href
    have h81 : (px_u (px_u Mr 73 35 0) 73 38 (Mr 73 82)) 73 81 = Mr 73 81 := by rw [pu_n (by omega), pu_n (by omega)]
    -- both kept together
    have hall : ∀ c j, c < 220 ∨ 220 ≤ c → ¬ (c = 20 ∧ 1 ≤ j ∧ j ≤ 9) → c ≠ B → c ≠ B + 1 → c ≠ B + 2 → c ≠ B + 3 → ¬ (c = 73 ∧ (j = 0 ∨ 77 ≤ j ∧ j ≤ 85)) → Mr c j = M c j := by
      intro c j _ q1 q2 q3 q4 q5 q6
      rw [hMr c j (by omega), hM3 c j (by omega), hMc c j q1 q2 q3 q4 q5]
    have kpf : ∀ M2 : px_M, (∀ c j, ¬ (c = 20 ∧ 1 ≤ j ∧ j ≤ 9) → c ≠ B → c ≠ B + 1 → c ≠ B + 2 → c ≠ B + 3 → ¬ (c = 73 ∧ (j = 0 ∨ 77 ≤ j ∧ j ≤ 85)) → c ≠ 178 → ¬ (c = 73 ∧ 35 ≤ j ∧ j ≤ 38) → M2 c j = M c j) → kp sh [4] M M2 := by
      intro M2 hq c j hn
      have n4 : ¬ md sh c j = 4 := fun z => hn (by rw [z]; exact List.mem_cons_of_mem _ List.mem_cons_self)
      have n0 : ¬ md sh c j = 0 := fun z => hn (by rw [z]; exact List.mem_cons_self)
      refine hq c j ?_ ?_ ?_ ?_ ?_ ?_ ?_ ?_
      · rintro ⟨rfl, -⟩; exact n4 rfl
      · rintro rfl; rcases h1 with ⟨-, rfl⟩ | ⟨-, rfl⟩ <;> exact n4 rfl
      · rintro rfl; rcases h1 with ⟨-, rfl⟩ | ⟨-, rfl⟩ <;> exact n4 rfl
      · rintro rfl; rcases h1 with ⟨-, rfl⟩ | ⟨-, rfl⟩ <;> exact n4 rfl
      · rintro rfl; rcases h1 with ⟨-, rfl⟩ | ⟨-, rfl⟩ <;> exact n4 rfl
      · rintro ⟨rfl, q⟩
        have hz : mdf j = 0 := by
          rcases q with rfl | q
          · rfl
          · unfold mdf
            rw [if_neg (by omega), if_neg (by omega), if_neg (by omega), if_neg (by omega), if_neg (by omega), if_neg (by omega), if_neg (by omega), if_neg (by omega), if_neg (by omega), if_neg (by omega), if_neg (by omega), if_neg (by omega), if_neg (by omega), if_neg (by omega)]
        exact n0 hz
      · rintro rfl; exact n4 rfl
      · rintro ⟨rfl, q1, q2⟩
        have hz : mdf j = 4 := by
          obtain rfl | rfl | rfl | rfl : j = 35 ∨ j = 36 ∨ j = 37 ∨ j = 38 := by omega
          all_goals rfl
        exact n4 hz
    unfold f_X11_rules f_X11_rules_15
    rw [hin, bI_t hp, bd1_e, if_neg (by decide), hread, bd1_e]
    revert g4 g6
    rw [show ([] : List Rul).length = 0 from rfl]
    generalize hPR : pRules tx n 17 (bl tx n 0) 0 = r
    intro g4 g6
    match r, g4, g6, hPR with
    | .inr e, g4, g6, hPR =>
      obtain ⟨he, hen, Mb', C', a', x', k', u', o', hf, eMc⟩ := g4
      obtain ⟨-, h', s', kk', aa', oo', eMr⟩ := g6
      have hne := nE he
      have c8 : Mc 20 8 = nI e.1 := by rw [eMc]; rfl
      have c9 : Mc 20 9 = nI e.2 := by rw [eMc]; rfl
      have r81 : Mr 73 81 = nI e.1 := by rw [eMr]; rfl
      have r82 : Mr 73 82 = nI e.2 := by rw [eMr]; rfl
      rw [if_neg (by rw [c8]; exact hne), bd1_e]
      refine ⟨_, Mc, R, px_u (px_u Mr 73 35 0) 73 38 (Mr 73 82), rfl, ?_, ?_, ?_, fun _ _ _ _ => rfl, ?_, ?_⟩
      · rw [href, if_neg (by rw [h81, r81]; exact hne), h81, r81, c8]
      · rw [pu_n (by omega), pu_n (by omega), hMr 73 0 (by omega), eM3, pu_n (by omega), pu_n (by omega), px_u_in]
      · refine kpf _ fun c j q1 q2 q3 q4 q5 q6 q7 q8 => ?_
        rw [pu_n (by omega), pu_n (by omega), hall c j (by omega) q1 q2 q3 q4 q5 q6]
      · refine ⟨0, by omega, ?_, ?_, fun i hi => absurd hi (by omega)⟩
        · rw [pu_n (by omega), pu_n (by omega), hMr 20 1 (by omega), hM3 20 1 (by omega), eMc, cs_out hf (by omega) (by omega) (by omega) (by omega) (by omega), eM0, pu_n (by omega), px_u_in]
          rfl
        · rw [pu_n (by omega), px_u_in]; rfl
      · have hk : ∀ c j, c ≠ 20 → c ≠ B → c ≠ B + 1 → c ≠ B + 2 → c ≠ B + 3 → ¬ (c = 73 ∧ (j = 0 ∨ j = 35 ∨ j = 38 ∨ 77 ≤ j ∧ j ≤ 85)) → px_u (px_u Mr 73 35 0) 73 38 (Mr 73 82) c j = M c j := by
          intro c j q1 q2 q3 q4 q5 q6
          rw [pu_n (by omega), pu_n (by omega), hall c j (by omega) (by omega) q2 q3 q4 q5 (by omega)]
        refine ⟨A, B, txo, no, Lo, h1, h2, ?_, ⟨h4.1, fun i hi => ?_, ?_⟩, ⟨?_, ?_, h5.2.2⟩, h6, fun j hj => ?_, fun i hi => ?_⟩
        · rw [px_u_in, pu_n (by omega), pu_n (by omega), hMr 20 9 (by omega), hM3 20 9 (by omega), c9, r82]
        · rw [hk 178 i (by omega) (by omega) (by omega) (by omega) (by omega) (by omega)]; exact h4.2.1 i hi
        · rw [hk 73 37 (by omega) (by omega) (by omega) (by omega) (by omega) (by omega)]; exact h4.2.2
        · rw [hk 73 36 (by omega) (by omega) (by omega) (by omega) (by omega) (by omega)]; exact h5.1
        · rw [hk A 5 (by omega) (by omega) (by omega) (by omega) (by omega) (by omega)]; exact h5.2.1
        · rw [hk (A + 1) j (by omega) (by omega) (by omega) (by omega) (by omega) (by omega)]; exact h7 j hj
        · rw [hk (A + 2) i (by omega) (by omega) (by omega) (by omega) (by omega) (by omega), hk (A + 3) i (by omega) (by omega) (by omega) (by omega) (by omega) (by omega)]; exact h8 i hi
    | .inl L, g4, g6, hPR =>
      obtain ⟨l1, l2, l3, a', x', k', u', Mb', hRB, eMc⟩ := g4
      rw [List.nil_append] at l1 l2 hRB eMc
      obtain ⟨aa', eMr⟩ := g6
      have c8 : Mc 20 8 = 0 := by rw [eMc]; rfl
      have c9 : Mc 20 9 = -1 := by rw [eMc]; rfl
      have r81 : Mr 73 81 = 0 := by rw [eMr]; rfl
      have r82 : Mr 73 82 = -1 := by rw [eMr]; rfl
      have r85 : Mr 73 85 = nI L.length := by rw [eMr]; rfl
      have c5 : Mc B 5 = nI L.length := by
        rw [eMc]
        unfold csM
        rw [if_neg hB20.1, if_neg (by omega), if_pos rfl, if_neg (by decide)]
        exact hRB.1
      have ccode : ∀ j, j < (cdsL L).length → Mc (B + 1) j = (cdsL L).getD j 0 := by
        intro j hj
        rw [eMc]
        unfold csM
        rw [if_neg (by omega), if_pos rfl, if_pos hj]
      have cend : ∀ i, i < L.length → Mc (B + 2) i = nI (enL L i) ∧ Mc (B + 3) i = nI (stL L i) := by
        intro i hi
        rw [eMc]
        unfold csM
        rw [if_neg (by omega), if_neg (by omega), if_neg (by omega), if_neg (by omega), if_neg (by omega), if_neg (by omega)]
        exact hRB.2.1 i hi
      have hR2 : px_u (px_u R 0 7 (some B)) 20 10 (some A) 0 7 = some B := by rw [pu_n (by omega), px_u_in]
      rw [if_pos c8, h2.1, bd1_e, h2.2, bd1_e, nm_u, nm_u, hR2, bd1_e, ok_t (hk_t s1), bd1_e]
      -- the reference copies its text
      have K := lpf_for (body := fun a : Int32 × px_M => f_X12_rules_76 a.2 (nI n) a.1) (fun i (M' : px_M) => (nI i, M')) (fun i M' => px_u M' 178 i (M' 177 i)) (fun i M' => (∀ c j, c ≠ 178 → M' c j = (px_u (px_u Mr 73 35 0) 73 38 (Mr 73 82)) c j) ∧ ∀ j, j < i → M' 178 j = Mr 177 j) (fun M' => M') n
        (fun i M' hi hP => by
          obtain ⟨P1, P2⟩ := hP
          refine ⟨?_, fun c j hc => ?_, fun j hj => ?_⟩
          · show f_X12_rules_76 M' (nI n) (nI i) = _
            unfold f_X12_rules_76
            rw [if_neg (nI_ge hi (by omega)), ok_t (ix_k (show i < 300 by omega) (by decide)), nm_u, ok_t (ix_k (show i < 300 by omega) (by decide)), nm_u, nI_1, nI_clamp (show i < 2 ^ 31 by omega)]
          · rw [pu_n (fun z => hc z.1)]; exact P1 c j hc
          · by_cases e : j = i
            · subst e
              rw [px_u_in, P1 177 j (by decide), pu_n (by omega), pu_n (by omega)]
            · rw [pu_n (fun z => e z.2)]; exact P2 j (by omega))
        (fun M' _ => by
          show f_X12_rules_76 M' (nI n) (nI n) = _
          unfold f_X12_rules_76
          rw [if_pos (Int32.le_refl _)]) n 0 (px_u (px_u Mr 73 35 0) 73 38 (Mr 73 82)) (by omega) ⟨fun _ _ _ => rfl, fun j hj => absurd hj (by omega)⟩
      obtain ⟨K1, K2, K3⟩ := K
      obtain ⟨Mk, eMk⟩ : ∃ Mk, Mk = fld (fun i (M' : px_M) => px_u M' 178 i (M' 177 i)) 0 n (px_u (px_u Mr 73 35 0) 73 38 (Mr 73 82)) := ⟨_, rfl⟩
      rw [← eMk] at K1 K2 K3
      have k85 : px_u Mk 73 37 (nI n) 73 85 = nI L.length := by rw [pu_n (by omega), K2 73 85 (by decide), pu_n (by omega), pu_n (by omega), r85]
      have hfin : f_X12_rules Mc (nI n) = some (nI L.length, px_u (px_u Mk 73 37 (nI n)) 73 36 (nI L.length)) := by
        rw [href, if_pos (by rw [h81, r81]), show ((0, px_u (px_u Mr 73 35 0) 73 38 (Mr 73 82)) : Int32 × px_M) = (nI 0, px_u (px_u Mr 73 35 0) 73 38 (Mr 73 82)) from rfl, K1, bd1_e, nm_u, nm_u, k85, nm_u, px_u_in]
      have hk : ∀ c j, c ≠ 178 → ¬ (c = 73 ∧ 35 ≤ j ∧ j ≤ 38) → px_u (px_u Mk 73 37 (nI n)) 73 36 (nI L.length) c j = Mr c j := by
        intro c j q1 q2
        rw [pu_n (by omega), pu_n (by omega), K2 c j q1, pu_n (by omega), pu_n (by omega)]
      have hkc : ∀ c j, c ≠ 178 → c ≠ 73 → px_u (px_u Mk 73 37 (nI n)) 73 36 (nI L.length) c j = Mc c j := by
        intro c j q1 q2
        rw [hk c j q1 (by omega), hMr c j (by omega), hM3 c j (by omega)]
      refine ⟨nI L.length, Mc, _, _, by rw [c5], hfin, ?_, ?_, fun c j q1 q2 => ?_, ?_, ?_⟩
      · rw [hk 73 0 (by omega) (by omega), hMr 73 0 (by omega), eM3, pu_n (by omega), pu_n (by omega), px_u_in]
      · refine kpf _ fun c j q1 q2 q3 q4 q5 q6 q7 q8 => ?_
        rw [hk c j q7 q8, hall c j (by omega) q1 q2 q3 q4 q5 q6]
      · rw [pu_n q2, pu_n q1]
      · refine ⟨0, by omega, ?_, ?_, fun i hi => absurd hi (by omega)⟩
        · rw [hkc 20 1 (by omega) (by omega), eMc, cs_out hRB.2.2 (by omega) (by omega) (by omega) (by omega) (by omega), eM0, pu_n (by omega), px_u_in]
          rfl
        · rw [pu_n (by omega), pu_n (by omega), K2 73 35 (by decide), pu_n (by omega), px_u_in]; rfl
      · refine ⟨B, A, tx, n, L, ?_, ⟨?_, ?_⟩, ?_, ⟨by omega, fun i hi => ?_, ?_⟩, ⟨px_u_in _ _ _ _, ?_, l1⟩, ⟨hPR, l3, by omega⟩, fun j hj => ?_, fun i hi => ?_⟩
        · omega
        · exact hR2
        · rw [px_u_in]
        · rw [hkc 20 9 (by omega) (by omega), c9, pu_n (by omega), pu_n (by omega), K2 73 38 (by decide), px_u_in, r82]
        · rw [pu_n (by omega), pu_n (by omega), K3 i hi, hMr 177 i (by omega), hM3 177 i (by omega), hMc 177 i (by omega) (by omega) (by omega) (by omega) (by omega)]
          exact htx i (by omega)
        · rw [pu_n (by omega), px_u_in]
        · rw [hkc B 5 (by omega) (by omega)]; exact c5
        · rw [hkc (B + 1) j (by omega) (by omega)]; exact ccode j hj
        · rw [hkc (B + 2) i (by omega) (by omega), hkc (B + 3) i (by omega) (by omega)]; exact cend i hi
  · right
    unfold f_X11_rules f_X12_rules f_X12_rules_23
    rw [hin, bI_f hp, bd1_e, if_pos rfl, nm_u, show (px_u M 73 0 0) 73 35 = nI t from t3, e_in, bI_f hp, bd1_e, if_pos rfl, e_bt (by decide), bd1_e, if_neg (show ¬ (1 : Int32) = 0 by decide)]
    exact ⟨rfl, rfl⟩
end RULES
