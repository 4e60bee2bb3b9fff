/-! the net: knots, pulls, strings, cut -/
def KnI (M : px_M) (i : Nat) : Prop := (M 41 i = M 192 i ∧ M 42 i = M 193 i ∧ M 43 i = M 194 i ∧ M 44 i = M 195 i ∧ M 45 i = M 198 i) ∧ (-5 ≤ M 192 i ∧ M 192 i ≤ 5) ∧ (-5 ≤ M 193 i ∧ M 193 i ≤ 5) ∧ (-100 ≤ M 194 i ∧ M 194 i ≤ 100) ∧ (-100 ≤ M 195 i ∧ M 195 i ≤ 100) ∧ zb (M 198 i) = true
def StI (M : px_M) (nk i : Nat) : Prop := (M 46 i = M 196 i ∧ M 47 i = M 197 i) ∧ ∃ a b, (a < nk ∧ b < nk ∧ a ≠ b) ∧ M 196 i = nI a ∧ M 197 i = nI b
def NetS (M : px_M) (nk nt : Nat) : Prop := (nk ≤ 6 ∧ nt ≤ 6) ∧ (M 40 5 = nI nk ∧ M 73 57 = nI nk ∧ M 40 8 = nI nt ∧ M 73 58 = nI nt) ∧ (∀ i, i < nk → KnI M i) ∧ ∀ i, i < nt → StI M nk i
theorem NetS.fr {sh : px_Sh} {M M' : px_M} {nk nt : Nat} (h : NetS M nk nt) (hM : sm_ sh 6 M M') : NetS M' nk nt := by
  obtain ⟨h1, h2, h3, h4⟩ := h
  refine ⟨h1, ?_, fun i hi => ?_, fun i hi => ?_⟩
  · rw [hM 40 5 rfl, hM 40 8 rfl, hM 73 57 rfl, hM 73 58 rfl]; exact h2
  · unfold KnI
    rw [hM 41 i rfl, hM 42 i rfl, hM 43 i rfl, hM 44 i rfl, hM 45 i rfl, hM 192 i rfl, hM 193 i rfl, hM 194 i rfl, hM 195 i rfl, hM 198 i rfl]
    exact h3 i hi
  · unfold StI
    rw [hM 46 i rfl, hM 47 i rfl, hM 196 i rfl, hM 197 i rfl]
    exact h4 i hi
section NET
variable {sh : px_Sh} {M : px_M} {nk nt : Nat}
theorem p_knot (hI : NetS M nk nt) (p1 p2 : Int32) {p3 : Int32} (hz : zb p3 = true) :
    (∃ r M1 M2, f_X11_knot M p1 p2 p3 = some (.inl (r, M1)) ∧ f_X12_knot M1 p1 p2 p3 = some (r, M2) ∧ M2 73 0 = 0 ∧ kp sh [6] M M2 ∧ (∃ nk nt, NetS M2 nk nt) ∧ (M2 40 9 = 0 ∨ sm_ sh 6 M M2)) ∨ (f_X11_knot M p1 p2 p3 = some (.inr 0) ∧ f_X12_knot M p1 p2 p3 = some (0, px_t M 1)) := by
  have hI' := hI
  obtain ⟨h1, h2, h3, h4⟩ := hI
  by_cases hc : (-5 ≤ p1 ∧ p1 ≤ 5) ∧ (-5 ≤ p2 ∧ p2 ≤ 5)
  · left
    have hg : ∀ M', f_X11_knot M' p1 p2 p3 = bd1 (f_X11_knot_28 M' p1 p2 p3) (fun e => some (.inl e)) ∧ f_X12_knot M' p1 p2 p3 = f_X12_knot_31 (px_u M' 73 0 0) p1 p2 p3 0 := by
      intro M'
      unfold f_X11_knot f_X12_knot f_X11_knot_25
      simp only [e_within, e_in, bI_t hc.1, bI_t hc.2, bd1_e, nm_u, if_neg (show ¬ (1 : Int32) = 0 by decide), and_self]
    by_cases e5 : nk = 6
    · subst e5
      refine ⟨-1, M, px_u M 73 0 0, ?_, ?_, px_u_in _ _ _ _, px_0_kp _ _, ⟨6, nt, hI'.fr (sh := sh) (sm_u0 (by decide) 0)⟩, Or.inr (sm_u0 (by decide) 0)⟩
      · rw [(hg M).1]
        unfold f_X11_knot_28 f_X4_addKnot
        rw [if_pos (show M 40 5 = 6 from h2.1)]; rfl
      · rw [(hg M).2]
        unfold f_X12_knot_31
        rw [e_bf, bd1_e, if_pos rfl, if_pos (show (px_u M 73 0 0) 73 57 = 6 from h2.2.1)]
    · have hne : ¬ nI nk = 6 := nI_eq' (b := 6) (by omega) (by decide) e5
      obtain ⟨Mc, hMc⟩ : ∃ Mc, Mc = px_u (px_u (px_u (px_u (px_u (px_u (px_u M 40 9 0) 41 nk p1) 42 nk p2) 45 nk p3) 43 nk 0) 44 nk 0) 40 5 (nI (nk + 1)) := ⟨_, rfl⟩
      obtain ⟨M2, hM2⟩ : ∃ M2, M2 = px_u (px_u (px_u (px_u (px_u (px_u (px_u Mc 73 0 0) 192 nk p1) 193 nk p2) 194 nk 0) 195 nk 0) 198 nk p3) 73 57 (nI (nk + 1)) := ⟨_, rfl⟩
      refine ⟨nI nk, Mc, M2, ?_, ?_, ?_, ?_, ?_, Or.inl ?_⟩
      · rw [(hg M).1]
        unfold f_X11_knot_28 f_X4_addKnot
        simp (disch := omega) only [nm_u, h2.1, if_neg hne, pu_n (a := 40) (b := 5) (c := 40), pu_n (a := 40) (b := 5) (c := 41), pu_n (a := 40) (b := 5) (c := 42), pu_n (a := 40) (b := 5) (c := 43), pu_n (a := 40) (b := 5) (c := 44), pu_n (a := 40) (b := 5) (c := 45), ok_t (ix_k (show nk < 6 by omega) (by decide : 6 < 2 ^ 31)), nI_clamp (show nk < 2 ^ 31 by omega), nI_1, bd1_e, ok_t hz, hMc]
      · rw [(hg Mc).2]
        have e9a : (px_u Mc 73 0 0) 73 57 = nI nk := by rw [hMc]; simp (disch := omega) only [pu_n]; exact h2.2.1
        unfold f_X12_knot_31
        simp (disch := omega) only [nm_u, e_bf, bd1_e, if_true, e9a, if_neg hne, pu_n (a := 73) (b := 57) (c := 192), pu_n (a := 73) (b := 57) (c := 193), pu_n (a := 73) (b := 57) (c := 194), pu_n (a := 73) (b := 57) (c := 195), pu_n (a := 73) (b := 57) (c := 198), ok_t (ix_k (show nk < 6 by omega) (by decide : 6 < 2 ^ 31)), nI_clamp (show nk < 2 ^ 31 by omega), nI_1, px_u_in, nI_pred, ok_t hz, hM2]
      · rw [hM2]; simp (disch := omega) only [pu_n]; exact px_u_in _ _ _ _
      · rw [hM2, hMc]
        exact (((((((((((((kp.rf.u 6 rfl (by decide)).u 6 rfl (by decide)).u 6 rfl (by decide)).u 6 rfl (by decide)).u 6 rfl (by decide)).u 6 rfl (by decide)).u 6 rfl (by decide)).u 0 rfl (by decide)).u 6 rfl (by decide)).u 6 rfl (by decide)).u 6 rfl (by decide)).u 6 rfl (by decide)).u 6 rfl (by decide)).u 6 rfl (by decide)
      · refine ⟨nk + 1, nt, ⟨by omega, h1.2⟩, ?_, fun i hi => ?_, fun i hi => ?_⟩
        · rw [hM2, hMc]
          refine ⟨?_, px_u_in _ _ _ _, ?_, ?_⟩
          · simp (disch := omega) only [pu_n, px_u_in]
          · simp (disch := omega) only [pu_n]; exact h2.2.2.1
          · simp (disch := omega) only [pu_n]; exact h2.2.2.2
        · by_cases e : i = nk
          · subst e
            rw [hM2, hMc]
            unfold KnI
            simp (disch := omega) only [pu_n, px_u_in]
            exact ⟨⟨trivial, trivial, trivial, trivial, trivial⟩, hc.1, hc.2, by decide, by decide, hz⟩
          · rw [hM2, hMc]
            unfold KnI
            simp (disch := omega) only [pu_n]
            exact h3 i (by omega)
        · obtain ⟨k1, a, b, k2, k3⟩ := h4 i hi
          rw [hM2, hMc]
          unfold StI
          simp (disch := omega) only [pu_n]
          exact ⟨k1, a, b, ⟨by omega, by omega, k2.2.2⟩, k3⟩
      · rw [hM2, hMc]; simp (disch := omega) only [pu_n, px_u_in]
  · right
    have hb : f_X12_knot_26 (px_u M 73 0 0) p1 p2 p3 = some (0, px_t M 1) := by
      unfold f_X12_knot_26 f_X12_knot_31
      rw [e_bt (by decide), bd1_e]; rfl
    unfold f_X11_knot f_X12_knot f_X11_knot_24 f_X11_knot_25
    by_cases q1 : -5 ≤ p1 ∧ p1 ≤ 5 <;> by_cases q2 : -5 ≤ p2 ∧ p2 ≤ 5
    · exact absurd ⟨q1, q2⟩ hc
    all_goals simp [e_within, e_in, bd1_e, nm_u, bI_0, q1, q2, hb]
theorem p_pull (hI : NetS M nk nt) (p1 p2 p3 : Int32) :
    (∃ M1 M2, f_X11_pull M p1 p2 p3 = some (.inl M1) ∧ f_X12_pull M1 p1 p2 p3 = some M2 ∧ M2 73 0 = 0 ∧ kp sh [6] M M2 ∧ (∃ nk nt, NetS M2 nk nt) ∧ M2 40 9 = 0) ∨ (f_X11_pull M p1 p2 p3 = some (.inr 2) ∧ f_X12_pull M p1 p2 p3 = some (px_t M 1)) ∨ (f_X11_pull M p1 p2 p3 = some (.inr 0) ∧ f_X12_pull M p1 p2 p3 = some (px_t M 2)) := by
  obtain ⟨h1, h2, h3, h4⟩ := hI
  rcases rng p1 (k := nk) (by omega) with ⟨k, hk, rfl, w1, w2⟩ | ⟨-, w1, w2⟩
  · by_cases hc : (-100 ≤ p2 ∧ p2 ≤ 100) ∧ (-100 ≤ p3 ∧ p3 ≤ 100)
    · left
      obtain ⟨Mc, hMc⟩ : ∃ Mc, Mc = px_u (px_u (px_u M 40 9 0) 43 k p2) 44 k p3 := ⟨_, rfl⟩
      obtain ⟨M2, hM2⟩ : ∃ M2, M2 = px_u (px_u (px_u Mc 73 0 0) 194 k p2) 195 k p3 := ⟨_, rfl⟩
      refine ⟨Mc, M2, ?_, ?_, ?_, ?_, ?_, ?_⟩
      · unfold f_X11_pull f_X11_pull_38 f_X11_pull_41 f_X4_setPull f_X4_hasKnot
        simp only [h2.1, w1, bd1_e, ok_t zb1, if_neg (show ¬ (1 : Int32) = 0 by decide), e_within p2, e_within p3, bI_t hc.1, bI_t hc.2, ok_t (ix_k (show k < 6 by omega) (by decide : 6 < 2 ^ 31)), nI_clamp (show k < 2 ^ 31 by omega), nm_u, hMc]
      · have e9 : (px_u Mc 73 0 0) 73 57 = nI nk := by rw [hMc]; simp (disch := omega) only [pu_n]; exact h2.2.1
        unfold f_X12_pull f_X12_pull_25 f_X12_pull_60
        simp only [nm_u, e9, w2, bd1_e, if_neg (show ¬ (1 : Int32) = 0 by decide), e_bf, if_true, e_in p2, e_in p3, bI_t hc.1, bI_t hc.2, ok_t (ix_k (show k < 6 by omega) (by decide : 6 < 2 ^ 31)), nI_clamp (show k < 2 ^ 31 by omega), hM2]
      · rw [hM2]; simp (disch := omega) only [pu_n]; exact px_u_in _ _ _ _
      · rw [hM2, hMc]
        exact (((((kp.rf.u 6 rfl (by decide)).u 6 rfl (by decide)).u 6 rfl (by decide)).u 0 rfl (by decide)).u 6 rfl (by decide)).u 6 rfl (by decide)
      · refine ⟨nk, nt, h1, ?_, fun i hi => ?_, fun i hi => ?_⟩
        · rw [hM2, hMc]
          simp (disch := omega) only [pu_n]
          exact h2
        · by_cases e : i = k
          · subst e
            rw [hM2, hMc]
            have := h3 i hi
            unfold KnI at this ⊢
            simp (disch := omega) only [pu_n, px_u_in]
            exact ⟨⟨this.1.1, this.1.2.1, trivial, trivial, this.1.2.2.2.2⟩, this.2.1, this.2.2.1, hc.1, hc.2, this.2.2.2.2.2⟩
          · rw [hM2, hMc]
            unfold KnI
            simp (disch := omega) only [pu_n]
            exact h3 i hi
        · rw [hM2, hMc]
          unfold StI
          simp (disch := omega) only [pu_n]
          exact h4 i hi
      · rw [hM2, hMc]; simp (disch := omega) only [pu_n, px_u_in]
    · right; right
      have e9 : (px_u M 73 0 0) 73 57 = nI nk := h2.2.1
      have hb : f_X12_pull_55 (px_u M 73 0 0) (nI k) p2 p3 = some (px_t M 2) := by
        unfold f_X12_pull_55 f_X12_pull_60
        rw [e_bt (by decide), bd1_e]; rfl
      unfold f_X11_pull f_X12_pull f_X12_pull_25 f_X4_hasKnot f_X11_pull_37 f_X11_pull_38
      simp only [h2.1, nm_u, e9, w1, w2, bd1_e, ok_t zb1, if_neg (show ¬ (1 : Int32) = 0 by decide), e_bf, if_true]
      by_cases q1 : -100 ≤ p2 ∧ p2 ≤ 100 <;> by_cases q2 : -100 ≤ p3 ∧ p3 ≤ 100
      · exact absurd ⟨q1, q2⟩ hc
      all_goals simp [e_within, e_in, bd1_e, bI_0, q1, q2, hb]
  · right; left
    have e9 : (px_u M 73 0 0) 73 57 = nI nk := h2.2.1
    unfold f_X11_pull f_X12_pull f_X12_pull_25 f_X12_pull_67 f_X4_hasKnot
    simp only [h2.1, nm_u, e9, w1, w2, bd1_e, ok_t zb0, if_true, e_bt (show ¬ (1 : Int32) = 0 by decide), if_neg (show ¬ (1 : Int32) = 0 by decide)]
    exact ⟨trivial, trivial⟩
theorem p_cut (hI : NetS M nk nt) : ∃ r M1 M2, f_X11_cut M = some (r, M1) ∧ f_X12_cut M1 = some (r, M2) ∧ M2 73 0 = 0 ∧ kp sh [6] M M2 ∧ (∃ nk nt, NetS M2 nk nt) ∧ M2 40 9 = 0 := by
  obtain ⟨h1, h2, h3, h4⟩ := hI
  refine ⟨nI nt, px_u (px_u (px_u M 40 9 0) 40 5 0) 40 8 0, px_u (px_u (px_u (px_u (px_u (px_u M 40 9 0) 40 5 0) 40 8 0) 73 0 0) 73 58 0) 73 57 0, ?_, ?_, ?_, ?_, ?_, ?_⟩
  · unfold f_X11_cut f_X4_cutAll
    simp only [nm_u, bd1_e, h2.2.2.1]
  · unfold f_X12_cut
    simp (disch := omega) only [nm_u, pu_n (a := 73) (b := 58), h2.2.2.2]
  · simp (disch := omega) only [pu_n]; exact px_u_in _ _ _ _
  · exact (((((kp.rf.u 6 rfl (by decide)).u 6 rfl (by decide)).u 6 rfl (by decide)).u 0 rfl (by decide)).u 6 rfl (by decide)).u 6 rfl (by decide)
  · refine ⟨0, 0, ⟨by decide, by decide⟩, ⟨?_, ?_, ?_, ?_⟩, fun i hi => absurd hi (by omega), fun i hi => absurd hi (by omega)⟩ <;> (simp (disch := omega) only [pu_n, px_u_in]; rfl)
  · simp (disch := omega) only [pu_n, px_u_in]
/-- whether two knots are tied already, in the class and in the reference -/
theorem tied2 (hI : NetS M nk nt) {a b : Nat} (ha : a < nk) (hb : b < nk) (M' : px_M) (hM : ∀ i, M' 196 i = M 196 i ∧ M' 197 i = M 197 i) (h58 : M' 73 58 = M 73 58) :
    (f_X4_isTied M (nI a) (nI b) = some 0 ∧ lpf (fun x : Int32 => f_X12_string_112 M' (nI a) (nI b) x) 0 = some (.inr ())) ∨ (f_X4_isTied M (nI a) (nI b) = some 1 ∧ lpf (fun x : Int32 => f_X12_string_112 M' (nI a) (nI b) x) 0 = some (.inl ())) := by
  obtain ⟨h1, h2, h3, h4⟩ := hI
  have K := fun (body : Int32 → Option (Int32 ⊕ (Unit ⊕ Unit))) => lpf_find (body := body) (β := Unit ⊕ Unit) nI nt (fun i => (M 196 i = nI a ∧ M 197 i = nI b) ∨ (M 196 i = nI b ∧ M 197 i = nI a)) (fun _ => .inl ()) (.inr ())
  have c1 := K (fun x => f_X4_isTied_2 M (nI a) (nI b) x)
    (fun i hi hc => by
      have e := (h4 i hi).1
      show f_X4_isTied_2 M (nI a) (nI b) (nI i) = _
      unfold f_X4_isTied_2 f_X4_isTied_34 f_X4_isTied_35 f_X4_isTied_64
      simp only [h2.2.2.1, if_neg (nI_ge hi (by omega : nt < 2 ^ 31)), ok_t (ix_k (show i < 6 by omega) (by decide : 6 < 2 ^ 31)), nI_clamp (show i < 2 ^ 31 by omega), e.1, e.2, nI_1, if_true]
      clear h3 h4 K
      revert hc
      generalize M 196 i = x
      generalize M 197 i = y
      generalize nI a = u
      generalize nI b = v
      intro hc
      by_cases q1 : x = u <;> by_cases q2 : y = v <;> by_cases q3 : x = v <;> by_cases q4 : y = u <;> simp_all)
    (fun i hi hc => by
      have e := (h4 i hi).1
      show f_X4_isTied_2 M (nI a) (nI b) (nI i) = _
      unfold f_X4_isTied_2 f_X4_isTied_34 f_X4_isTied_35 f_X4_isTied_64
      simp only [h2.2.2.1, if_neg (nI_ge hi (by omega : nt < 2 ^ 31)), ok_t (ix_k (show i < 6 by omega) (by decide : 6 < 2 ^ 31)), nI_clamp (show i < 2 ^ 31 by omega), e.1, e.2, nI_1, if_true]
      rcases hc with ⟨q1, q2⟩ | ⟨q1, q2⟩
      · rw [if_pos q1, if_pos q2, if_neg (by decide)]
      · simp only [q1, q2, if_true, if_neg (show ¬ (1 : Int32) = 0 by decide), ite_self])
    (by
      show f_X4_isTied_2 M (nI a) (nI b) (nI nt) = _
      unfold f_X4_isTied_2
      rw [h2.2.2.1, if_pos (Int32.le_refl _)]) nt 0 (by omega)
  have c2 := K (fun x => f_X12_string_112 M' (nI a) (nI b) x)
    (fun i hi hc => by
      show f_X12_string_112 M' (nI a) (nI b) (nI i) = _
      unfold f_X12_string_112 f_X12_string_140 f_X12_string_163
      simp only [h58, h2.2.2.2, if_neg (nI_ge hi (by omega : nt < 2 ^ 31)), ok_t (ix_k (show i < 6 by omega) (by decide : 6 < 2 ^ 31)), nI_clamp (show i < 2 ^ 31 by omega), (hM i).1, (hM i).2, nI_1, if_true]
      clear h3 h4 K
      revert hc
      generalize M 196 i = x
      generalize M 197 i = y
      generalize nI a = u
      generalize nI b = v
      intro hc
      by_cases q1 : x = u <;> by_cases q2 : y = v <;> by_cases q3 : x = v <;> by_cases q4 : y = u <;> simp_all)
    (fun i hi hc => by
      show f_X12_string_112 M' (nI a) (nI b) (nI i) = _
      unfold f_X12_string_112 f_X12_string_140 f_X12_string_163
      simp only [h58, h2.2.2.2, if_neg (nI_ge hi (by omega : nt < 2 ^ 31)), ok_t (ix_k (show i < 6 by omega) (by decide : 6 < 2 ^ 31)), nI_clamp (show i < 2 ^ 31 by omega), (hM i).1, (hM i).2, nI_1, if_true]
      rcases hc with ⟨q1, q2⟩ | ⟨q1, q2⟩
      · rw [if_pos q1, if_pos q2]
      · simp only [q1, q2, if_true, ite_self])
    (by
      show f_X12_string_112 M' (nI a) (nI b) (nI nt) = _
      unfold f_X12_string_112
      rw [h58, h2.2.2.2, if_pos (Int32.le_refl _)]) nt 0 (by omega)
  unfold f_X4_isTied
  rcases c1 with ⟨a1, a2⟩ | ⟨j, a1, a2, a3, a4, a5⟩
  · left
    refine ⟨bdS_r (b := ()) a1, ?_⟩
    rcases c2 with ⟨b1, -⟩ | ⟨j, b1, b2, b3, -⟩
    · exact b1
    · exact absurd b3 (a2 j b1 b2)
  · right
    refine ⟨bdS_l (a := ()) a5, ?_⟩
    rcases c2 with ⟨-, b1⟩ | ⟨j', b1, b2, b3, b4, b5⟩
    · exact absurd a3 (b1 j a1 a2)
    · exact b5
theorem p_string (hI : NetS M nk nt) (p1 p2 : Int32) :
    (∃ r M1 M2, f_X11_string M p1 p2 = some (.inl (r, M1)) ∧ f_X12_string M1 p1 p2 = some (r, M2) ∧ M2 73 0 = 0 ∧ kp sh [6] M M2 ∧ (∃ nk nt, NetS M2 nk nt) ∧ (M2 40 9 = 0 ∨ sm_ sh 6 M M2)) ∨ (f_X11_string M p1 p2 = some (.inr 2) ∧ f_X12_string M p1 p2 = some (0, px_t M 1)) ∨ (f_X11_string M p1 p2 = some (.inr 0) ∧ f_X12_string M p1 p2 = some (0, px_t M 2)) := by
  have hI' := hI
  obtain ⟨h1, h2, h3, h4⟩ := hI
  have e57 : (px_u M 73 0 0) 73 57 = nI nk := h2.2.1
  have hb1 : ∀ q1 q2 : Int32, f_X12_string_34 (px_u M 73 0 0) q1 q2 = some (0, px_t M 1) := by
    intro q1 q2
    unfold f_X12_string_34 f_X12_string_39 f_X12_string_64
    rw [e_bt (by decide), bd1_e]; rfl
  rcases rng p1 (k := nk) (by omega) with ⟨a, ha, rfl, w1, w2⟩ | ⟨-, w1, w2⟩
  · rcases rng p2 (k := nk) (by omega) with ⟨b, hb, rfl, v1, v2⟩ | ⟨-, v1, v2⟩
    · by_cases hab : a = b
      · right; right
        subst hab
        unfold f_X11_string f_X12_string f_X4_hasKnot f_X11_string_27 f_X11_string_40 f_X12_string_39 f_X12_string_57 f_X12_string_64
        simp only [h2.1, nm_u, e57, w1, w2, bd1_e, ok_t zb1, if_neg (show ¬ (1 : Int32) = 0 by decide), e_bf, if_true, e_bt (show ¬ (2 : Int32) = 0 by decide)]
        exact ⟨trivial, trivial⟩
      · left
        have hne0 : ¬ nI a = nI b := nI_eq' (by omega) (by omega) hab
        have hgc : f_X11_string M (nI a) (nI b) = bd1 (f_X4_addString M (nI a) (nI b)) (fun e => some (.inl (e.1, e.2))) := by
          unfold f_X11_string f_X4_hasKnot f_X11_string_27 f_X11_string_40 f_X11_string_43
          simp only [h2.1, w1, v1, bd1_e, ok_t zb1, if_neg (show ¬ (1 : Int32) = 0 by decide), if_neg hne0]
          cases f_X4_addString M (nI a) (nI b) <;> rfl
        have hgm : ∀ M', (px_u M' 73 0 0) 73 57 = nI nk → f_X12_string M' (nI a) (nI b) = f_X12_string_57 (px_u M' 73 0 0) (nI a) (nI b) 0 := by
          intro M' e
          unfold f_X12_string f_X12_string_39
          simp only [nm_u, e, w2, v2, bd1_e, if_neg (show ¬ (1 : Int32) = 0 by decide), e_bf, if_true, if_neg hne0]
        have hsame : ∀ r : Int32, f_X4_addString M (nI a) (nI b) = some (r, M) → f_X12_string_57 (px_u M 73 0 0) (nI a) (nI b) 0 = some (r, px_u M 73 0 0) → ∃ r M1 M2, f_X11_string M (nI a) (nI b) = some (.inl (r, M1)) ∧ f_X12_string M1 (nI a) (nI b) = some (r, M2) ∧ M2 73 0 = 0 ∧ kp sh [6] M M2 ∧ (∃ nk nt, NetS M2 nk nt) ∧ (M2 40 9 = 0 ∨ sm_ sh 6 M M2) := by
          intro r q1 q2
          refine ⟨r, M, px_u M 73 0 0, ?_, ?_, px_u_in _ _ _ _, px_0_kp _ _, ⟨nk, nt, hI'.fr (sh := sh) (sm_u0 (by decide) 0)⟩, Or.inr (sm_u0 (by decide) 0)⟩
          · rw [hgc, q1]; rfl
          · rw [hgm M e57, q2]
        have ka := h3 a ha
        have kb := h3 b hb
        by_cases e6 : nt = 6
        · subst e6
          refine hsame (-1) ?_ ?_
          · unfold f_X4_addString
            rw [if_pos (show M 40 8 = 6 from h2.2.2.1)]
          · unfold f_X12_string_57
            rw [e_bf, bd1_e, if_pos rfl, if_pos (show (px_u M 73 0 0) 73 58 = 6 from h2.2.2.2)]
        · have hne : ¬ nI nt = 6 := nI_eq' (b := 6) (by omega) (by decide) e6
          by_cases hp : M 192 a = M 192 b ∧ M 193 a = M 193 b
          · refine hsame (-2) ?_ ?_
            · unfold f_X4_addString
              simp only [h2.2.2.1, if_neg hne, ok_t (ix_k (show a < 6 by omega) (by decide : 6 < 2 ^ 31)), ok_t (ix_k (show b < 6 by omega) (by decide : 6 < 2 ^ 31)), nI_clamp (show a < 2 ^ 31 by omega), nI_clamp (show b < 2 ^ 31 by omega), ka.1.1, kb.1.1, ka.1.2.1, kb.1.2.1, if_pos hp.1, if_pos hp.2]
            · have e58 : (px_u M 73 0 0) 73 58 = nI nt := h2.2.2.2
              unfold f_X12_string_57
              simp only [e_bf, bd1_e, if_true, e58, if_neg hne, ok_t (ix_k (show a < 6 by omega) (by decide : 6 < 2 ^ 31)), ok_t (ix_k (show b < 6 by omega) (by decide : 6 < 2 ^ 31)), nI_clamp (show a < 2 ^ 31 by omega), nI_clamp (show b < 2 ^ 31 by omega), if_pos (show (px_u M 73 0 0) 192 a = (px_u M 73 0 0) 192 b from hp.1), if_pos (show (px_u M 73 0 0) 193 a = (px_u M 73 0 0) 193 b from hp.2)]
          · have hc1 : f_X4_addString M (nI a) (nI b) = f_X4_addString_44 M (nI a) (nI b) := by
              unfold f_X4_addString
              simp only [h2.2.2.1, if_neg hne, ok_t (ix_k (show a < 6 by omega) (by decide : 6 < 2 ^ 31)), ok_t (ix_k (show b < 6 by omega) (by decide : 6 < 2 ^ 31)), nI_clamp (show a < 2 ^ 31 by omega), nI_clamp (show b < 2 ^ 31 by omega), ka.1.1, kb.1.1, ka.1.2.1, kb.1.2.1]
              by_cases q1 : M 192 a = M 192 b
              · rw [if_pos q1, if_neg (fun q => hp ⟨q1, q⟩)]
              · rw [if_neg q1]
            have hc2 : ∀ M', M' 73 0 = 0 → M' 73 58 = nI nt → M' 192 a = M 192 a → M' 193 a = M 193 a → M' 192 b = M 192 b → M' 193 b = M 193 b → f_X12_string_57 M' (nI a) (nI b) 0 = f_X12_string_110 M' (nI a) (nI b) := by
              intro M' e0 e58 x1 x2 x3 x4
              unfold f_X12_string_57
              simp only [e_bad_f e0, bd1_e, if_true, e58, if_neg hne, ok_t (ix_k (show a < 6 by omega) (by decide : 6 < 2 ^ 31)), ok_t (ix_k (show b < 6 by omega) (by decide : 6 < 2 ^ 31)), nI_clamp (show a < 2 ^ 31 by omega), nI_clamp (show b < 2 ^ 31 by omega), x1, x2, x3, x4]
              by_cases q1 : M 192 a = M 192 b
              · rw [if_pos q1, if_neg (fun q => hp ⟨q1, q⟩)]
              · rw [if_neg q1]
            obtain ⟨Mc, hMc⟩ : ∃ Mc, Mc = px_u (px_u (px_u (px_u M 40 9 0) 46 nt (nI a)) 47 nt (nI b)) 40 8 (nI (nt + 1)) := ⟨_, rfl⟩
            have T1 := tied2 hI' ha hb (px_u M 73 0 0) (fun _ => ⟨rfl, rfl⟩) rfl
            have T2 := tied2 hI' ha hb (px_u Mc 73 0 0) (fun i => by rw [hMc]; constructor <;> simp (disch := omega) only [pu_n]) (by rw [hMc]; simp (disch := omega) only [pu_n])
            rcases T1 with ⟨t1, -⟩ | ⟨t1, t2⟩
            · rcases T2 with ⟨-, u2⟩ | ⟨u1, -⟩
              · obtain ⟨M2, hM2⟩ : ∃ M2, M2 = px_u (px_u (px_u (px_u Mc 73 0 0) 196 nt (nI a)) 197 nt (nI b)) 73 58 (nI (nt + 1)) := ⟨_, rfl⟩
                have e58 : (px_u Mc 73 0 0) 73 58 = nI nt := by rw [hMc]; simp (disch := omega) only [pu_n]; exact h2.2.2.2
                refine ⟨nI nt, Mc, M2, ?_, ?_, ?_, ?_, ?_, Or.inl ?_⟩
                · rw [hgc, hc1]
                  unfold f_X4_addString_44
                  simp (disch := omega) only [t1, bd1_e, if_true, nm_u, pu_n (a := 40) (b := 8) (c := 40) (j := 9), pu_n (a := 40) (b := 8) (c := 46), pu_n (a := 40) (b := 8) (c := 47), h2.2.2.1, ok_t (ix_k (show nt < 6 by omega) (by decide : 6 < 2 ^ 31)), nI_clamp (show nt < 2 ^ 31 by omega), nI_1, hMc]
                · rw [hgm Mc (by rw [hMc]; simp (disch := omega) only [pu_n]; exact h2.2.1), hc2 (px_u Mc 73 0 0) (px_u_in _ _ _ _) e58 (by rw [hMc]; simp (disch := omega) only [pu_n]) (by rw [hMc]; simp (disch := omega) only [pu_n]) (by rw [hMc]; simp (disch := omega) only [pu_n]) (by rw [hMc]; simp (disch := omega) only [pu_n])]
                  unfold f_X12_string_110
                  rw [bdS_r (b := ()) u2]
                  simp (disch := omega) only [nm_u, e58, pu_n (a := 73) (b := 58) (c := 196), pu_n (a := 73) (b := 58) (c := 197), ok_t (ix_k (show nt < 6 by omega) (by decide : 6 < 2 ^ 31)), nI_clamp (show nt < 2 ^ 31 by omega), nI_1, px_u_in, nI_pred, hM2]
                · rw [hM2]; simp (disch := omega) only [pu_n]; exact px_u_in _ _ _ _
                · rw [hM2, hMc]
                  exact (((((((kp.rf.u 6 rfl (by decide)).u 6 rfl (by decide)).u 6 rfl (by decide)).u 6 rfl (by decide)).u 0 rfl (by decide)).u 6 rfl (by decide)).u 6 rfl (by decide)).u 6 rfl (by decide)
                · refine ⟨nk, nt + 1, ⟨h1.1, by omega⟩, ?_, fun i hi => ?_, fun i hi => ?_⟩
                  · rw [hM2, hMc]
                    refine ⟨?_, ?_, ?_, px_u_in _ _ _ _⟩
                    · simp (disch := omega) only [pu_n]; exact h2.1
                    · simp (disch := omega) only [pu_n]; exact h2.2.1
                    · simp (disch := omega) only [pu_n, px_u_in]
                  · rw [hM2, hMc]
                    unfold KnI
                    simp (disch := omega) only [pu_n]
                    exact h3 i hi
                  · by_cases e : i = nt
                    · subst e
                      rw [hM2, hMc]
                      unfold StI
                      simp (disch := omega) only [pu_n, px_u_in]
                      exact ⟨⟨trivial, trivial⟩, a, b, ⟨ha, hb, hab⟩, rfl, rfl⟩
                    · rw [hM2, hMc]
                      unfold StI
                      simp (disch := omega) only [pu_n]
                      exact h4 i (by omega)
                · rw [hM2, hMc]; simp (disch := omega) only [pu_n, px_u_in]
              · rw [t1] at u1; cases u1
            · refine hsame (-3) ?_ ?_
              · rw [hc1]
                unfold f_X4_addString_44
                rw [t1, bd1_e, if_neg (by decide)]
              · rw [hc2 _ (px_u_in _ _ _ _) h2.2.2.2 rfl rfl rfl rfl]
                unfold f_X12_string_110
                rw [bdS_l (a := ()) t2]
    · right; left
      unfold f_X11_string f_X12_string f_X4_hasKnot f_X11_string_26 f_X11_string_27
      simp only [h2.1, nm_u, e57, w1, w2, v1, v2, bd1_e, ok_t zb1, ok_t zb0, if_neg (show ¬ (1 : Int32) = 0 by decide), if_true, hb1]
      exact ⟨trivial, trivial⟩
  · right; left
    unfold f_X11_string f_X12_string f_X4_hasKnot f_X11_string_26 f_X11_string_27
    simp only [h2.1, nm_u, e57, w1, w2, bd1_e, ok_t zb0, if_true, hb1]
    exact ⟨trivial, trivial⟩
end NET
