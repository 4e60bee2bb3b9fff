/-! fly, all days -/
section FLY2
variable {sh : px_Sh} {L : px_L} {R : px_R} {np nf nw nd A B n : Nat} {pa fp wa ch ly tx : Nat → Nat} {Lr : List Rul}
theorem j_fly (hS : SR sh R) {D : Nat} (hD : D ≤ 200) : ∀ (m i d r a : Nat) (Mc Mr : px_M) (z y : Int32), JI sh L R A B n tx Lr np nf nw nd pa fp wa ch ly d r a (mix Mc Mr) → i + m = D → d + m ≤ 2000 → (z = 0 ↔ y = 0) →
    ∃ q Mc' Mr' d' r' a', lpf (fun b : Int32 × Int32 × px_M => f_X9_flyFor_6 sh b.2.2 R (nI D) A b.1 b.2.1) (nI i, z, Mc) = some (q, Mc') ∧ lpf (fun b : Int32 × Int32 × px_M => f_X12_fly_60 b.2.2 (nI D) b.1 b.2.1) (nI i, y, Mr) = some (q, Mr') ∧ JI sh L R A B n tx Lr np nf nw nd pa fp wa ch ly d' r' a' (mix Mc' Mr') ∧ (∀ c j, 73 ≤ c → c ≤ 218 → Mc' c j = Mc c j) ∧ (∀ c j, (c < 73 ∨ 219 ≤ c) → Mr' c j = Mr c j) ∧ kp sh [2, 3] (mix Mc Mr) (mix Mc' Mr') ∧ Mr' 73 0 = Mr 73 0
  | 0, i, d, r, a, Mc, Mr, z, y, hJ, hi, hd, hz => by
    obtain rfl : i = D := by omega
    refine ⟨nI i, Mc, Mr, d, r, a, lpf_end ?_, lpf_end ?_, hJ, fun _ _ _ _ => rfl, fun _ _ _ => rfl, kp.rf, rfl⟩
    · show f_X9_flyFor_6 sh Mc R (nI i) A (nI i) z = _
      unfold f_X9_flyFor_6
      rw [if_pos (Int32.le_refl _)]
    · show f_X12_fly_60 Mr (nI i) (nI i) y = _
      unfold f_X12_fly_60
      rw [if_pos (Int32.le_refl _)]
  | m + 1, i, d, r, a, Mc, Mr, z, y, hJ, hi, hd, hz => by
    by_cases hz0 : z = 0
    · obtain ⟨Mc1, Mr1, r1, a1, g1, g2, g3, g4, g5, g6, g7⟩ := j_day hS hJ (by omega)
      obtain ⟨-, hW, hV, -⟩ := id g3
      obtain ⟨z', q1, q2, q3⟩ := p_met hW hV (M' := mix Mc1 Mr1) (fun _ _ _ _ => rfl)
      have hgc : f_X9_isGoalMet sh Mc1 R = some z' := by
        rw [goal_loc (M := mix Mc1 Mr1) hW hV (fun c j h => (mix_c h).symm)]
        exact q2
      have e28 : Mr1 73 28 = mix Mc1 Mr1 73 28 := (mix_r (by omega) (by omega)).symm
      have e25 : Mr1 73 25 = mix Mc1 Mr1 73 25 := (mix_r (by omega) (by omega)).symm
      have e26 : Mr1 73 26 = mix Mc1 Mr1 73 26 := (mix_r (by omega) (by omega)).symm
      have e24 : Mr1 73 24 = mix Mc1 Mr1 73 24 := (mix_r (by omega) (by omega)).symm
      have hcl : f_X9_flyFor_6 sh Mc R (nI D) A (nI i) z = some (.inl (nI (i + 1), z', Mc1)) := by
        unfold f_X9_flyFor_6
        rw [if_neg (nI_ge (show i < D by omega) (by omega)), if_pos hz0, g1, bd1_e, hgc, bd1_e, nI_1]
      obtain ⟨y', hy', hrf⟩ : ∃ y', (z' = 0 ↔ y' = 0) ∧ f_X12_fly_60 Mr (nI D) (nI i) y = some (.inl (nI (i + 1), y', Mr1)) := by
        unfold f_X12_fly_60 f_X12_fly_111 f_X12_fly_112
        rw [if_neg (nI_ge (show i < D by omega) (by omega)), if_pos (hz.mp hz0), g2, bd1_e, nI_1]
        rcases q3 with ⟨w1, w2⟩ | ⟨y1, w1, w2, w3⟩
        · rw [if_pos (by rw [e28]; exact w1)]
          exact ⟨0, by rw [w2], rfl⟩
        · rw [if_neg (by rw [e28]; exact w1), e28, e25, e26, e24, loc_met (M := mix Mc1 Mr1) (fun c h1 h2 => by funext j; exact (mix_r h1 h2).symm), w2, bd1_e]
          by_cases e : y1 = 0
          · rw [if_pos e]
            exact ⟨0, by rw [w3.mp e], rfl⟩
          · rw [if_neg e]
            refine ⟨1, ⟨fun q => absurd (w3.mpr q) e, fun q => absurd q (by decide)⟩, rfl⟩
      rw [lpf_go (body := fun b : Int32 × Int32 × px_M => f_X9_flyFor_6 sh b.2.2 R (nI D) A b.1 b.2.1) (a := (nI i, z, Mc)) hcl, lpf_go (body := fun b : Int32 × Int32 × px_M => f_X12_fly_60 b.2.2 (nI D) b.1 b.2.1) (a := (nI i, y, Mr)) hrf]
      obtain ⟨q, Mc', Mr', d', r', a', h1, h2, h3, h4, h5, h6, h7⟩ := j_fly hS hD m (i + 1) (d + 1) r1 a1 Mc1 Mr1 z' y' g3 (by omega) (by omega) hy'
      exact ⟨q, Mc', Mr', d', r', a', h1, h2, h3, fun c j x1 x2 => (h4 c j x1 x2).trans (g4 c j x1 x2), fun c j x => (h5 c j x).trans (g5 c j x), g6.tr h6, h7.trans g7⟩
    · refine ⟨nI i, Mc, Mr, d, r, a, lpf_end ?_, lpf_end ?_, hJ, fun _ _ _ _ => rfl, fun _ _ _ => rfl, kp.rf, rfl⟩
      · show f_X9_flyFor_6 sh Mc R (nI D) A (nI i) z = _
        unfold f_X9_flyFor_6
        rw [if_neg (nI_ge (show i < D by omega) (by omega)), if_neg hz0]
      · show f_X12_fly_60 Mr (nI D) (nI i) y = _
        unfold f_X12_fly_60
        rw [if_neg (nI_ge (show i < D by omega) (by omega)), if_neg (fun q => hz0 (hz.mpr q))]
theorem JI.fr {M M' : px_M} {d r a : Nat} (h : JI sh L R A B n tx Lr np nf nw nd pa fp wa ch ly d r a M) (hM : kp sh [] M M') : JI sh L R A B n tx Lr np nf nw nd pa fp wa ch ly d r a M' := by
  obtain ⟨h1, h2, h3, h4, h5, h6⟩ := h
  have s2 : sm_ sh 2 M M' := hM.sm (by decide)
  have s3 : sm_ sh 3 M M' := hM.sm (by decide)
  have s4 : sm_ sh 4 M M' := hM.sm (by decide)
  refine ⟨h1.fr s2 (fun _ => ⟨rfl, rfl⟩) (fun _ q => q), h2.fr s3 (fun _ _ _ => rfl) (fun _ _ _ => rfl) (fun _ _ q => q), h3.fr s3, fun k hk => ?_, fun i hi => ?_, h6.fr s4 (fun _ _ _ => rfl)⟩
  · rw [s3 16 k rfl]; exact h4 k hk
  · rw [s2 84 i rfl]; exact h5 i hi
theorem p_fly (hS : SR sh R) {M : px_M} {d r a : Nat} (hJ : JI sh L R A B n tx Lr np nf nw nd pa fp wa ch ly d r a M) (p1 : Int32) :
    (∃ q M1 M2 d' r' a', f_X11_fly sh M R p1 = some (.inl (q, M1)) ∧ f_X12_fly M1 p1 = some (q, M2) ∧ M2 73 0 = 0 ∧ kp sh [2, 3] M M2 ∧ JI sh L R A B n tx Lr np nf nw nd pa fp wa ch ly d' r' a' M2) ∨ (f_X11_fly sh M R p1 = some (.inr 0) ∧ f_X12_fly M p1 = some (0, px_t M 1)) ∨ (f_X11_fly sh M R p1 = some (.inr 1) ∧ f_X12_fly M p1 = some (0, px_t M 2)) := by
  obtain ⟨v1, v2, -⟩ := hJ.2.2.1
  obtain ⟨y1, y2, y3, y4, -⟩ := v2
  by_cases hp : 0 ≤ p1 ∧ p1 ≤ 200
  · obtain ⟨D, hD, rfl⟩ := nI_of2 (M := 200) (n := 200) (by decide) (Int32.not_lt.mpr hp.1) hp.2
    by_cases hd : d + D ≤ 2000
    · left
      have hmix : ∀ X : px_M, (∀ c j, 73 ≤ c → c ≤ 218 → ¬ (c = 73 ∧ j = 0) → X c j = M c j) → kp sh [] M (mix M X) := by
        intro X hX c j hn
        have n0 : ¬ (c = 73 ∧ j = 0) := fun z => hn (by rw [z.1, z.2]; exact List.mem_cons_self)
        by_cases q : 73 ≤ c ∧ c ≤ 218
        · rw [mix_r q.1 q.2]; exact hX c j q.1 q.2 n0
        · rw [mix_c (by omega)]
      obtain ⟨q, M1, Mr0, d0, r0, a0, h1, -, -, h4, -⟩ := j_fly hS hD D 0 d r a M M 0 0 (hJ.fr (hmix M (fun _ _ _ _ _ => rfl))) (by omega) hd Iff.rfl
      have hm2 := hmix (px_u M1 73 0 0) (fun c j x1 x2 x3 => by rw [pu_n x3]; exact h4 c j x1 x2)
      obtain ⟨q', M1', M2, d', r', a', k1, k2, k3, k4, k5, k6, k7⟩ := j_fly hS hD D 0 d r a M (px_u M1 73 0 0) 0 0 (hJ.fr hm2) (by omega) hd Iff.rfl
      rw [h1] at k1
      obtain ⟨rfl, rfl⟩ : q = q' ∧ M1 = M1' := by
        have := Option.some.inj k1
        exact ⟨congrArg Prod.fst this, congrArg Prod.snd this⟩
      have em : mix M1 M2 = M2 := by
        funext c j
        by_cases x : 73 ≤ c ∧ c ≤ 218
        · exact mix_r x.1 x.2
        · rw [mix_c (by omega), k5 c j (by omega), pu_n (by omega)]
      rw [em] at k3 k6
      refine ⟨q, M1, M2, d', r', a', ?_, ?_, by rw [k7, px_u_in], ?_, k3⟩
      · unfold f_X11_fly f_X11_fly_31 f_X11_fly_34 f_X9_flyFor
        rw [e_within, bI_t hp, bd1_e, if_neg (by decide), y3, nI_add, if_neg (show ¬ 2000 < nI (d + D) from nI_nlt (a := 2000) hd (by decide)), if_neg (by decide), hJ.2.2.2.2.2.2.1.1, bd1_e, show ((0, 0, M) : Int32 × Int32 × px_M) = (nI 0, 0, M) from rfl, h1, bd1_e, bd1_e, bd1_e]
      · unfold f_X12_fly f_X12_fly_22 f_X12_fly_47
        have e24 : (px_u M1 73 0 0) 73 24 = nI d := by rw [pu_n (by omega), h4 73 24 (by omega) (by omega)]; exact y4
        rw [nm_u, e_in, bI_t hp, bd1_e, if_neg (by decide), e_bf, bd1_e, if_pos rfl]
        dsimp only
        rw [if_pos (show px_u M1 73 0 0 73 24 + nI D ≤ 2000 by rw [e24, nI_add]; exact nI_le (b := 2000) hd (by decide)), e_bf, bd1_e, if_pos rfl, show ((0, 0, px_u M1 73 0 0) : Int32 × Int32 × px_M) = (nI 0, 0, px_u M1 73 0 0) from rfl, k2, bd1_e]
      · exact (hm2.mono (fun k hk => by
          rcases List.mem_cons.mp hk with rfl | hk
          · exact List.mem_cons_self
          · exact absurd hk (by simp))).tr k6
    · right; right
      unfold f_X11_fly f_X11_fly_31 f_X12_fly f_X12_fly_22 f_X12_fly_47 f_X12_fly_54
      rw [e_within, bI_t hp, bd1_e, if_neg (by decide), y3, nI_add, if_pos (show 2000 < nI (d + D) from nI_lt (a := 2000) (by omega) (by omega)), if_pos rfl, nm_u, e_in, bI_t hp, bd1_e, if_neg (by decide), e_bf, bd1_e, if_pos rfl]
      dsimp only
      rw [if_neg (show ¬ px_u M 73 0 0 73 24 + nI D ≤ 2000 by rw [show (px_u M 73 0 0) 73 24 = nI d from y4, nI_add]; exact nI_ge (a := 2000) (by omega) (by omega)), e_bt (by decide), bd1_e, if_neg (show ¬ (1 : Int32) = 0 by decide)]
      exact ⟨rfl, rfl⟩
  · right; left
    unfold f_X11_fly f_X12_fly f_X12_fly_22 f_X12_fly_54
    rw [e_within, bI_f hp, bd1_e, if_pos rfl, nm_u, e_in, bI_f hp, bd1_e, if_pos rfl, e_bt (by decide), bd1_e, if_neg (show ¬ (1 : Int32) = 0 by decide)]
    exact ⟨rfl, rfl⟩
end FLY2
