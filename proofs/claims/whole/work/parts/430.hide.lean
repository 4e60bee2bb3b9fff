/-! hidden coats: coat and sight -/
def Ihide (M : px_M) : Prop := ∃ nc ns, (nc ≤ 5 ∧ ns ≤ 6) ∧ (M 27 2 = nI nc ∧ M 73 48 = nI nc ∧ M 27 6 = nI ns ∧ M 73 49 = nI ns) ∧ (∀ i, i < nc → M 28 i = M 185 i ∧ M 29 i = M 186 i ∧ (0 ≤ M 185 i ∧ M 185 i ≤ 100) ∧ (0 ≤ M 186 i ∧ M 186 i ≤ 100) ∧ M 185 i + M 186 i ≤ 100) ∧ (∀ i, i < ns → M 30 i = M 187 i ∧ M 31 i = M 188 i ∧ M 32 i = M 189 i ∧ -8 ≤ M 187 i ∧ M 187 i ≤ 8) ∧ ∀ i, M 36 i = 0
theorem Ihide.fr {sh : px_Sh} {M M' : px_M} (h : Ihide M) (hM : sm_ sh 5 M M') : Ihide M' := by
  obtain ⟨nc, ns, h1, h2, h3, h4, h5⟩ := h
  refine ⟨nc, ns, h1, ?_, fun i hi => ?_, fun i hi => ?_, fun i => ?_⟩
  · rw [hM 27 2 rfl, hM 73 48 rfl, hM 27 6 rfl, hM 73 49 rfl]; exact h2
  · rw [hM 28 i rfl, hM 29 i rfl, hM 185 i rfl, hM 186 i rfl]; exact h3 i hi
  · rw [hM 30 i rfl, hM 31 i rfl, hM 32 i rfl, hM 187 i rfl, hM 188 i rfl, hM 189 i rfl]; exact h4 i hi
  · rw [hM 36 i rfl]; exact h5 i
section HIDE
variable {sh : px_Sh} {M : px_M}
theorem p_coat (hI : Ihide M) (p1 p2 : Int32) :
    (∃ r M1 M2, f_X11_coat M p1 p2 = some (.inl (r, M1)) ∧ f_X12_coat M1 p1 p2 = some (r, M2) ∧ M2 73 0 = 0 ∧ kp sh [5] M M2 ∧ Ihide M2) ∨ (f_X11_coat M p1 p2 = some (.inr 0) ∧ f_X12_coat M p1 p2 = some (0, px_t M 1)) := by
  have hI' := hI
  obtain ⟨nc, ns, h1, h2, h3, h4, h5⟩ := hI
  by_cases hc : (0 ≤ p1 ∧ p1 ≤ 100) ∧ (0 ≤ p2 ∧ p2 ≤ 100) ∧ p1 + p2 ≤ 100
  · left
    have hg : ∀ M', f_X11_coat M' p1 p2 = bd1 (f_X11_coat_8 M' p1 p2) (fun e => some (.inl e)) ∧ f_X12_coat M' p1 p2 = f_X12_coat_39 (px_u M' 73 0 0) p1 p2 0 := by
      intro M'
      unfold f_X11_coat f_X12_coat
      simp only [e_isCoat, bI_t hc, e_in, bI_t hc.1, bI_t hc.2.1, bd1_e, nm_u, if_neg (show ¬ (1 : Int32) = 0 by decide), if_pos hc.2.2, and_self]
    by_cases e5 : nc = 5
    · subst e5
      refine ⟨-1, M, px_u M 73 0 0, ?_, ?_, px_u_in _ _ _ _, px_0_kp _ _, hI'.fr (sh := sh) (sm_u0 (by decide) 0)⟩
      · rw [(hg M).1]
        unfold f_X11_coat_8 f_X3_addCoat
        rw [if_pos (show M 27 2 = 5 from h2.1)]; rfl
      · rw [(hg M).2]
        unfold f_X12_coat_39
        rw [e_bf, bd1_e, if_pos rfl, if_pos (show (px_u M 73 0 0) 73 48 = 5 from h2.2.1)]
    · have hne : ¬ nI nc = 5 := nI_eq' (b := 5) (by omega) (by decide) e5
      obtain ⟨Mc, hMc⟩ : ∃ Mc, Mc = px_u (px_u (px_u M 28 nc p1) 29 nc p2) 27 2 (nI (nc + 1)) := ⟨_, rfl⟩
      obtain ⟨M2, hM2⟩ : ∃ M2, M2 = px_u (px_u (px_u (px_u Mc 73 0 0) 185 nc p1) 186 nc p2) 73 48 (nI (nc + 1)) := ⟨_, rfl⟩
      refine ⟨nI nc, Mc, M2, ?_, ?_, ?_, ?_, ?_⟩
      · rw [(hg M).1]
        unfold f_X11_coat_8 f_X3_addCoat
        simp (disch := omega) only [nm_u, h2.1, if_neg hne, pu_n (a := 27) (b := 2) (c := 28), pu_n (a := 27) (b := 2) (c := 29), ok_t (ix_k (show nc < 5 by omega) (by decide : 5 < 2 ^ 31)), nI_clamp (show nc < 2 ^ 31 by omega), nI_1, bd1_e, hMc]
      · rw [(hg Mc).2]
        have e9a : (px_u Mc 73 0 0) 73 48 = nI nc := by rw [hMc]; simp (disch := omega) only [pu_n]; exact h2.2.1
        unfold f_X12_coat_39
        simp (disch := omega) only [nm_u, e_bf, bd1_e, if_true, e9a, if_neg hne, pu_n (a := 73) (b := 48) (c := 185), pu_n (a := 73) (b := 48) (c := 186), ok_t (ix_k (show nc < 5 by omega) (by decide : 5 < 2 ^ 31)), nI_clamp (show nc < 2 ^ 31 by omega), nI_1, px_u_in, nI_pred, hM2]
      · rw [hM2]; simp (disch := omega) only [pu_n]; exact px_u_in _ _ _ _
      · rw [hM2, hMc]
        exact ((((((kp.rf.u 5 rfl (by decide)).u 5 rfl (by decide)).u 5 rfl (by decide)).u 0 rfl (by decide)).u 5 rfl (by decide)).u 5 rfl (by decide)).u 5 rfl (by decide)
      · refine ⟨nc + 1, ns, ⟨by omega, h1.2⟩, ?_, fun i hi => ?_, fun i hi => ?_, fun i => ?_⟩
        · rw [hM2, hMc]
          refine ⟨?_, px_u_in _ _ _ _, ?_, ?_⟩
          · simp (disch := omega) only [pu_n, px_u_in]
          · simp (disch := omega) only [pu_n]; exact h2.2.2.1
          · simp (disch := omega) only [pu_n]; exact h2.2.2.2
        · by_cases e : i = nc
          · subst e
            rw [hM2, hMc]
            simp (disch := omega) only [pu_n, px_u_in]
            exact ⟨trivial, trivial, hc⟩
          · rw [hM2, hMc]
            simp (disch := omega) only [pu_n]
            exact h3 i (by omega)
        · rw [hM2, hMc]
          simp (disch := omega) only [pu_n]
          exact h4 i hi
        · rw [hM2, hMc]
          simp (disch := omega) only [pu_n]
          exact h5 i
  · right
    have hb : f_X12_coat_34 (px_u M 73 0 0) p1 p2 = some (0, px_t M 1) := by
      unfold f_X12_coat_34 f_X12_coat_39
      rw [e_bt (by decide), bd1_e]; rfl
    unfold f_X11_coat f_X12_coat
    simp only [e_isCoat, bI_f hc, bd1_e, if_true, nm_u, e_in, hb]
    refine ⟨trivial, ?_⟩
    by_cases q1 : 0 ≤ p1 ∧ p1 ≤ 100
    · rw [bI_t q1, if_neg (by decide)]
      by_cases q2 : 0 ≤ p2 ∧ p2 ≤ 100
      · rw [bI_t q2, if_neg (by decide), if_neg (fun q => hc ⟨q1, q2, q⟩)]
      · rw [bI_f q2, if_pos rfl]
    · rw [bI_f q1, if_pos rfl]
theorem p_sight (hI : Ihide M) (p1 p2 p3 : Int32) :
    (∃ r M1 M2, f_X11_sight M p1 p2 p3 = some (.inl (r, M1)) ∧ f_X12_sight M1 p1 p2 p3 = some (r, M2) ∧ M2 73 0 = 0 ∧ kp sh [5] M M2 ∧ Ihide M2) ∨ (f_X11_sight M p1 p2 p3 = some (.inr 0) ∧ f_X12_sight M p1 p2 p3 = some (0, px_t M 1)) := by
  have hI' := hI
  obtain ⟨nc, ns, h1, h2, h3, h4, h5⟩ := hI
  by_cases hc : (-8 ≤ p1 ∧ p1 ≤ 8) ∧ (0 ≤ p2 ∧ p2 ≤ 1000000) ∧ (0 ≤ p3 ∧ p3 ≤ 10000)
  · left
    have hg : ∀ M', f_X11_sight M' p1 p2 p3 = bd1 (f_X11_sight_37 M' p1 p2 p3) (fun e => some (.inl e)) ∧ f_X12_sight M' p1 p2 p3 = f_X12_sight_44 (px_u M' 73 0 0) p1 p2 p3 0 := by
      intro M'
      unfold f_X11_sight f_X12_sight f_X11_sight_34
      simp only [e_isSlant, e_within, e_in, bI_t hc.1, bI_t hc.2.1, bI_t hc.2.2, bd1_e, nm_u, if_neg (show ¬ (1 : Int32) = 0 by decide), and_self]
    by_cases e5 : ns = 6
    · subst e5
      refine ⟨-1, M, px_u M 73 0 0, ?_, ?_, px_u_in _ _ _ _, px_0_kp _ _, hI'.fr (sh := sh) (sm_u0 (by decide) 0)⟩
      · rw [(hg M).1]
        unfold f_X11_sight_37 f_X3_addSight
        rw [if_pos (show M 27 6 = 6 from h2.2.2.1)]; rfl
      · rw [(hg M).2]
        unfold f_X12_sight_44
        rw [e_bf, bd1_e, if_pos rfl, if_pos (show (px_u M 73 0 0) 73 49 = 6 from h2.2.2.2)]
    · have hne : ¬ nI ns = 6 := nI_eq' (b := 6) (by omega) (by decide) e5
      obtain ⟨Mc, hMc⟩ : ∃ Mc, Mc = px_u (px_u (px_u (px_u M 30 ns p1) 31 ns p2) 32 ns p3) 27 6 (nI (ns + 1)) := ⟨_, rfl⟩
      obtain ⟨M2, hM2⟩ : ∃ M2, M2 = px_u (px_u (px_u (px_u (px_u Mc 73 0 0) 187 ns p1) 188 ns p2) 189 ns p3) 73 49 (nI (ns + 1)) := ⟨_, rfl⟩
      refine ⟨nI (ns + 1), Mc, M2, ?_, ?_, ?_, ?_, ?_⟩
      · rw [(hg M).1]
        unfold f_X11_sight_37 f_X3_addSight
        simp (disch := omega) only [nm_u, h2.2.2.1, if_neg hne, pu_n (a := 27) (b := 6) (c := 30), pu_n (a := 27) (b := 6) (c := 31), pu_n (a := 27) (b := 6) (c := 32), ok_t (ix_k (show ns < 6 by omega) (by decide : 6 < 2 ^ 31)), nI_clamp (show ns < 2 ^ 31 by omega), nI_1, bd1_e, px_u_in, hMc]
      · rw [(hg Mc).2]
        have e9a : (px_u Mc 73 0 0) 73 49 = nI ns := by rw [hMc]; simp (disch := omega) only [pu_n]; exact h2.2.2.2
        unfold f_X12_sight_44
        simp (disch := omega) only [nm_u, e_bf, bd1_e, if_true, e9a, if_neg hne, pu_n (a := 73) (b := 49) (c := 187), pu_n (a := 73) (b := 49) (c := 188), pu_n (a := 73) (b := 49) (c := 189), ok_t (ix_k (show ns < 6 by omega) (by decide : 6 < 2 ^ 31)), nI_clamp (show ns < 2 ^ 31 by omega), nI_1, px_u_in, nI_pred, hM2]
      · rw [hM2]; simp (disch := omega) only [pu_n]; exact px_u_in _ _ _ _
      · rw [hM2, hMc]
        exact ((((((((kp.rf.u 5 rfl (by decide)).u 5 rfl (by decide)).u 5 rfl (by decide)).u 5 rfl (by decide)).u 0 rfl (by decide)).u 5 rfl (by decide)).u 5 rfl (by decide)).u 5 rfl (by decide)).u 5 rfl (by decide)
      · refine ⟨nc, ns + 1, ⟨h1.1, by omega⟩, ?_, fun i hi => ?_, fun i hi => ?_, fun i => ?_⟩
        · rw [hM2, hMc]
          refine ⟨?_, ?_, ?_, px_u_in _ _ _ _⟩
          · simp (disch := omega) only [pu_n]; exact h2.1
          · simp (disch := omega) only [pu_n]; exact h2.2.1
          · simp (disch := omega) only [pu_n, px_u_in]
        · rw [hM2, hMc]
          simp (disch := omega) only [pu_n]
          exact h3 i hi
        · by_cases e : i = ns
          · subst e
            rw [hM2, hMc]
            simp (disch := omega) only [pu_n, px_u_in]
            exact ⟨trivial, trivial, trivial, hc.1⟩
          · rw [hM2, hMc]
            simp (disch := omega) only [pu_n]
            exact h4 i (by omega)
        · rw [hM2, hMc]
          simp (disch := omega) only [pu_n]
          exact h5 i
  · right
    have hb : f_X12_sight_39 (px_u M 73 0 0) p1 p2 p3 = some (0, px_t M 1) := by
      unfold f_X12_sight_39 f_X12_sight_44
      rw [e_bt (by decide), bd1_e]; rfl
    unfold f_X11_sight f_X12_sight f_X11_sight_33 f_X11_sight_34
    by_cases q1 : -8 ≤ p1 ∧ p1 ≤ 8 <;> by_cases q2 : 0 ≤ p2 ∧ p2 ≤ 1000000 <;> by_cases q3 : 0 ≤ p3 ∧ p3 ≤ 10000
    · exact absurd ⟨q1, q2, q3⟩ hc
    all_goals simp [e_isSlant, e_within, e_in, bd1_e, nm_u, bI_0, q1, q2, q3, hb]
end HIDE
