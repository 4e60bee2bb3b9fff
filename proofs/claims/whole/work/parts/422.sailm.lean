/-! the sail: calls that change it -/
theorem md_73_0 {sh : px_Sh} {c j k : Nat} (e : md sh c j = k) (hk : k ≠ 0) : ¬ (c = 73 ∧ j = 0) := fun q => by
  rw [q.1, q.2] at e
  exact hk (show k = 0 from e.symm)
section SAILM
variable {sh : px_Sh} {M M' : px_M} {R : px_R} {np nf : Nat} {pa fp : Nat → Nat}
/-- one panel changes, in its coat, curl, warm days or torn, here and there alike -/
theorem SailI.upd (h : SailI sh M R np nf pa fp) {k : Nat} (hk : k < np) (hM : ∀ c j, md sh c j = 2 → ¬ (c = pa k ∧ 3 ≤ j ∧ j ≤ 7) → ¬ (82 ≤ c ∧ c ≤ 86 ∧ j = k) → M' c j = M c j)
    (e3 : M' (pa k) 3 = M' 82 k) (e4 : M' (pa k) 4 = M' 83 k) (e5 : M' (pa k) 5 = M' 86 k) (e6 : M' (pa k) 6 = M' 84 k) (e7 : M' (pa k) 7 = M' 85 k) (hz : zb (M' 86 k) = true) : SailI sh M' R np nf pa fp := by
  obtain ⟨h1, h2, h3, h4, h5, h6, h7, h8, h9⟩ := h
  have hk2 : 220 ≤ pa k := (h3 k hk).1.2.2
  have hm : ∀ i, i < np → ∀ j, md sh (pa i) j = 2 := fun i hi j => md_5 (h3 i hi).1.2.2 (h3 i hi).1.2.1 j
  have hg : ∀ i, i < np → 220 ≤ pa i := fun i hi => (h3 i hi).1.2.2
  refine ⟨h1, ?_, fun i hi => ?_, h4, fun f hf => ?_, h6, fun i hi q => ?_, fun i hi => ?_, fun f hf => ?_⟩
  · rw [hM 6 1 rfl (by omega) (by omega), hM 73 9 rfl (by omega) (by omega), hM 6 3 rfl (by omega) (by omega), hM 73 10 rfl (by omega) (by omega), hM 6 4 rfl (by omega) (by omega), hM 6 5 rfl (by omega) (by omega), hM 73 11 rfl (by omega) (by omega), hM 73 12 rfl (by omega) (by omega)]
    exact h2
  · have hi2 := hg i hi
    obtain ⟨k1, k2, k3⟩ := h3 i hi
    by_cases e : i = k
    · subst e
      unfold PanI
      rw [hM 79 i rfl (by omega) (by omega), hM 80 i rfl (by omega) (by omega), hM 81 i rfl (by omega) (by omega), hM _ 0 (hm i hi 0) (by omega) (by omega), hM _ 1 (hm i hi 1) (by omega) (by omega), hM _ 2 (hm i hi 2) (by omega) (by omega)]
      exact ⟨k1, ⟨k2.1, k2.2.1, k2.2.2.1, e3, e4, e5, e6, e7⟩, hz, k3.2⟩
    · have hne : pa i ≠ pa k := fun q => e (h4 i k hi hk q)
      unfold PanI
      rw [hM 79 i rfl (by omega) (by omega), hM 80 i rfl (by omega) (by omega), hM 81 i rfl (by omega) (by omega), hM 82 i rfl (by omega) (by omega), hM 83 i rfl (by omega) (by omega), hM 84 i rfl (by omega) (by omega), hM 85 i rfl (by omega) (by omega), hM 86 i rfl (by omega) (by omega), hM _ 0 (hm i hi 0) (by omega) (by omega), hM _ 1 (hm i hi 1) (by omega) (by omega), hM _ 2 (hm i hi 2) (by omega) (by omega), hM _ 3 (hm i hi 3) (by omega) (by omega), hM _ 4 (hm i hi 4) (by omega) (by omega), hM _ 5 (hm i hi 5) (by omega) (by omega), hM _ 6 (hm i hi 6) (by omega) (by omega), hM _ 7 (hm i hi 7) (by omega) (by omega)]
      exact ⟨k1, k2, k3⟩
  · have := h5 f hf
    have hf2 := hg _ this.1.1
    unfold FlapI at this ⊢
    rw [hM 87 f rfl (by omega) (by omega), hM 88 f rfl (by omega) (by omega), hM 89 f rfl (by omega) (by omega), hM _ 8 (hm _ this.1.1 8) (by omega) (by omega), hM _ 9 (hm _ this.1.1 9) (by omega) (by omega), hM _ 10 (hm _ this.1.1 10) (by omega) (by omega)]
    exact this
  · have hi2 := hg i hi
    rw [hM _ 8 (hm i hi 8) (by omega) (by omega), hM _ 9 (hm i hi 9) (by omega) (by omega), hM _ 10 (hm i hi 10) (by omega) (by omega)]
    exact h7 i hi q
  · rw [hM 84 i rfl (by omega) (by omega), hM 85 i rfl (by omega) (by omega), hM 86 i rfl (by omega) (by omega)]; exact h8 i hi
  · rw [hM 88 f rfl (by omega) (by omega), hM 89 f rfl (by omega) (by omega)]; exact h9 f hf
/-- a flap's bend or stuck changes, here and there alike -/
theorem SailI.updF (h : SailI sh M R np nf pa fp) {g : Nat} (hg0 : g < nf) (hM : ∀ c j, md sh c j = 2 → ¬ (c = pa (fp g) ∧ 9 ≤ j ∧ j ≤ 10) → ¬ (88 ≤ c ∧ c ≤ 89 ∧ j = g) → M' c j = M c j)
    (e9 : M' (pa (fp g)) 9 = M' 88 g) (e10 : M' (pa (fp g)) 10 = M' 89 g) (hz : zb (M' 89 g) = true) (hb : -2 ≤ M' 88 g ∧ M' 88 g ≤ 2) : SailI sh M' R np nf pa fp := by
  obtain ⟨h1, h2, h3, h4, h5, h6, h7, h8, h9⟩ := h
  have hm : ∀ i, i < np → ∀ j, md sh (pa i) j = 2 := fun i hi j => md_5 (h3 i hi).1.2.2 (h3 i hi).1.2.1 j
  have hg : ∀ i, i < np → 220 ≤ pa i := fun i hi => (h3 i hi).1.2.2
  have hgp := (h5 g hg0).1.1
  have hk2 := hg _ hgp
  refine ⟨h1, ?_, fun i hi => ?_, h4, fun f hf => ?_, h6, fun i hi q => ?_, fun i hi => ?_, fun f hf => ?_⟩
  · rw [hM 6 1 rfl (by omega) (by omega), hM 73 9 rfl (by omega) (by omega), hM 6 3 rfl (by omega) (by omega), hM 73 10 rfl (by omega) (by omega), hM 6 4 rfl (by omega) (by omega), hM 6 5 rfl (by omega) (by omega), hM 73 11 rfl (by omega) (by omega), hM 73 12 rfl (by omega) (by omega)]
    exact h2
  · have hi2 := hg i hi
    unfold PanI
    rw [hM 79 i rfl (by omega) (by omega), hM 80 i rfl (by omega) (by omega), hM 81 i rfl (by omega) (by omega), hM 82 i rfl (by omega) (by omega), hM 83 i rfl (by omega) (by omega), hM 84 i rfl (by omega) (by omega), hM 85 i rfl (by omega) (by omega), hM 86 i rfl (by omega) (by omega), hM _ 0 (hm i hi 0) (by omega) (by omega), hM _ 1 (hm i hi 1) (by omega) (by omega), hM _ 2 (hm i hi 2) (by omega) (by omega), hM _ 3 (hm i hi 3) (by omega) (by omega), hM _ 4 (hm i hi 4) (by omega) (by omega), hM _ 5 (hm i hi 5) (by omega) (by omega), hM _ 6 (hm i hi 6) (by omega) (by omega), hM _ 7 (hm i hi 7) (by omega) (by omega)]
    exact h3 i hi
  · have := h5 f hf
    have hf2 := hg _ this.1.1
    by_cases e : f = g
    · subst e
      unfold FlapI at this ⊢
      rw [hM 87 f rfl (by omega) (by omega), hM _ 8 (hm _ this.1.1 8) (by omega) (by omega)]
      exact ⟨this.1, ⟨this.2.1.1, e9, e10⟩, hz, hb⟩
    · have hne : pa (fp f) ≠ pa (fp g) := fun q => e (h6 f g hf hg0 (h4 _ _ this.1.1 hgp q))
      unfold FlapI at this ⊢
      rw [hM 87 f rfl (by omega) (by omega), hM 88 f rfl (by omega) (by omega), hM 89 f rfl (by omega) (by omega), hM _ 8 (hm _ this.1.1 8) (by omega) (by omega), hM _ 9 (hm _ this.1.1 9) (by omega) (by omega), hM _ 10 (hm _ this.1.1 10) (by omega) (by omega)]
      exact this
  · have hi2 := hg i hi
    have hne : pa i ≠ pa (fp g) := fun q => by
      have := h4 _ _ hi hgp q
      exact absurd this.symm (by have := ‹∀ f, f < nf → fp f ≠ i› g hg0; exact this)
    rw [hM _ 8 (hm i hi 8) (by omega) (by omega), hM _ 9 (hm i hi 9) (by omega) (by omega), hM _ 10 (hm i hi 10) (by omega) (by omega)]
    exact h7 i hi q
  · rw [hM 84 i rfl (by omega) (by omega), hM 85 i rfl (by omega) (by omega), hM 86 i rfl (by omega) (by omega)]; exact h8 i hi
  · rw [hM 88 f rfl (by omega) (by omega), hM 89 f rfl (by omega) (by omega)]; exact h9 f hf
theorem p_of (hI : Isail sh M R) (p1 p2 : Int32) :
    (∃ r, f_X11_of sh M R p1 p2 = some (.inl r) ∧ f_X12_of M p1 p2 = some (r, px_u M 73 0 0)) ∨ (f_X11_of sh M R p1 p2 = some (.inr 3) ∧ f_X12_of M p1 p2 = some (0, px_t M 1)) ∨ (f_X11_of sh M R p1 p2 = some (.inr 0) ∧ f_X12_of M p1 p2 = some (0, px_t M 2)) := by
  obtain ⟨np, nf, pa, fp, h⟩ := hI
  have h16 := h.1.1
  have e9 : (px_u M 73 0 0) 73 9 = nI np := h.2.1.2.1
  unfold f_X11_of f_X12_of f_X8_hasPanel f_X12_of_25 f_X12_of_54
  simp only [nm_u, h.2.1.1, e9]
  rcases rng p1 (k := np) (by omega) with ⟨k, hk, rfl, w1, w2⟩ | ⟨-, w1, w2⟩
  · have hp := h.2.2.1 k hk
    simp only [w1, w2, bd1_e, ok_t zb1, e_within, e_in, bI_0, e_bf, if_neg (show ¬ (1 : Int32) = 0 by decide), if_true]
    by_cases h2 : 0 ≤ p2 ∧ p2 ≤ 4
    · left
      simp only [h2, not_true_eq_false, if_false, and_self]
      unfold f_X11_of_20 f_X12_of_47 f_X12_of_125 f_X5_fact f_X5_fact_54
      obtain ⟨j, hj, rfl⟩ := nI_of2 (M := 4) (n := 4) (by decide) (Int32.not_lt.mpr h2.1) h2.2
      simp only [ok_t (ix_k (show k < 16 by omega) (by decide : 16 < 2 ^ 31)), nI_clamp (show k < 2 ^ 31 by omega), hp.1.1, bd1_e, ok_t (hk_t hp.1.2.1), e_bf, if_true, hp.2.1.2.2.2.1, hp.2.1.2.2.2.2.1, hp.2.1.2.2.2.2.2.1, hp.2.1.2.2.2.2.2.2.1, hp.2.1.2.2.2.2.2.2.2, px_u_ne M 0 (0 : Int32) (show 82 ≠ 73 by decide), px_u_ne M 0 (0 : Int32) (show 83 ≠ 73 by decide), px_u_ne M 0 (0 : Int32) (show 84 ≠ 73 by decide), px_u_ne M 0 (0 : Int32) (show 85 ≠ 73 by decide), px_u_ne M 0 (0 : Int32) (show 86 ≠ 73 by decide)]
      obtain rfl | rfl | rfl | rfl | rfl : j = 0 ∨ j = 1 ∨ j = 2 ∨ j = 3 ∨ j = 4 := by omega
      · exact ⟨_, rfl, rfl⟩
      · exact ⟨_, rfl, rfl⟩
      · by_cases hc : M 86 k = 0
        · refine ⟨0, ?_, ?_⟩ <;> simp only [hc] <;> rfl
        · refine ⟨1, ?_, ?_⟩ <;> simp only [hc] <;> rfl
      · exact ⟨_, rfl, rfl⟩
      · exact ⟨_, rfl, rfl⟩
    · right; right
      unfold f_X12_of_47 f_X12_of_54
      simp [h2, e_bt, bd1_e]
  · right; left
    simp only [w1, w2, bd1_e, ok_t zb0, if_true, e_bt (show ¬ (1 : Int32) = 0 by decide), if_neg (show ¬ (1 : Int32) = 0 by decide)]
    exact ⟨trivial, trivial⟩
theorem p_tear (hI : Isail sh M R) (p1 : Int32) :
    (∃ r M1 M2, f_X11_tear sh M R p1 = some (.inl (r, M1)) ∧ f_X12_tear M1 p1 = some (r, M2) ∧ M2 73 0 = 0 ∧ (M2 6 1 = M 6 1 ∧ ∀ j, M2 84 j = M 84 j) ∧ kp sh [2] M M2 ∧ Isail sh M2 R) ∨ (f_X11_tear sh M R p1 = some (.inr 3) ∧ f_X12_tear M p1 = some (0, px_t M 1)) := by
  obtain ⟨np, nf, pa, fp, h⟩ := hI
  have h16 := h.1.1
  rcases rng p1 (k := np) (by omega) with ⟨k, hk, rfl, w1, w2⟩ | ⟨-, w1, w2⟩
  · left
    have hp := h.2.2.1 k hk
    have hpk := hp.1.2.2
    have hz : zb (M 86 k) = true := hp.2.2.1
    refine ⟨M 86 k, px_u M (pa k) 5 1, px_u (px_u (px_u M (pa k) 5 1) 73 0 0) 86 k 1, ?_, ?_, ?_, ?_, ?_, ?_⟩
    · unfold f_X11_tear f_X11_tear_11 f_X8_hasPanel
      simp only [h.2.1.1, w1, bd1_e, ok_t zb1, if_neg (show ¬ (1 : Int32) = 0 by decide), ok_t (ix_k (show k < 16 by omega) (by decide : 16 < 2 ^ 31)), nI_clamp (show k < 2 ^ 31 by omega), hp.1.1, ok_t (hk_t hp.1.2.1), nm_u, hp.2.1.2.2.2.2.2.1, ok_t hz]
    · have e9 : (px_u (px_u M (pa k) 5 1) 73 0 0) 73 9 = nI np := by simp (disch := omega) only [pu_n]; exact h.2.1.2.1
      have e86 : (px_u (px_u M (pa k) 5 1) 73 0 0) 86 k = M 86 k := by simp (disch := omega) only [pu_n]
      unfold f_X12_tear f_X12_tear_25
      simp only [nm_u, e9, w2, bd1_e, if_neg (show ¬ (1 : Int32) = 0 by decide), e_bf, if_true, ok_t (ix_k (show k < 16 by omega) (by decide : 16 < 2 ^ 31)), nI_clamp (show k < 2 ^ 31 by omega), e86, ok_t hz]
    · simp (disch := omega) only [pu_n]; exact px_u_in _ _ _ _
    · refine ⟨?_, fun j => ?_⟩ <;> simp (disch := omega) only [pu_n]
    · exact ((kp.rf.u 2 (h.m5 hk 5) (by decide)).u 0 rfl (by decide)).u 2 rfl (by decide)
    · refine ⟨np, nf, pa, fp, h.upd hk (fun c j e q1 q2 => ?_) ?_ ?_ ?_ ?_ ?_ ?_⟩
      · have q3 := md_73_0 e (by decide)
        simp (disch := omega) only [pu_n]
      · simp (disch := omega) only [pu_n]; exact hp.2.1.2.2.2.1
      · simp (disch := omega) only [pu_n]; exact hp.2.1.2.2.2.2.1
      · rw [px_u_in]; simp (disch := omega) only [pu_n]; exact px_u_in _ _ _ _
      · simp (disch := omega) only [pu_n]; exact hp.2.1.2.2.2.2.2.2.1
      · simp (disch := omega) only [pu_n]; exact hp.2.1.2.2.2.2.2.2.2
      · rw [px_u_in]; rfl
  · right
    have e9 : (px_u M 73 0 0) 73 9 = nI np := h.2.1.2.1
    unfold f_X11_tear f_X12_tear f_X12_tear_25 f_X8_hasPanel
    simp only [h.2.1.1, nm_u, e9, w1, w2, bd1_e, ok_t zb0, if_true, e_bt (show ¬ (1 : Int32) = 0 by decide), if_neg (show ¬ (1 : Int32) = 0 by decide)]
    exact ⟨trivial, trivial⟩
theorem p_bend (hI : Isail sh M R) (p1 p2 : Int32) :
    (∃ r M1 M2, f_X11_bend sh M R p1 p2 = some (.inl (r, M1)) ∧ f_X12_bend M1 p1 p2 = some (r, M2) ∧ M2 73 0 = 0 ∧ (M2 6 1 = M 6 1 ∧ ∀ j, M2 84 j = M 84 j) ∧ kp sh [2] M M2 ∧ Isail sh M2 R) ∨ (f_X11_bend sh M R p1 p2 = some (.inr 2) ∧ f_X12_bend M p1 p2 = some (0, px_t M 1)) ∨ (f_X11_bend sh M R p1 p2 = some (.inr 0) ∧ f_X12_bend M p1 p2 = some (0, px_t M 2)) := by
  obtain ⟨np, nf, pa, fp, h⟩ := hI
  have h16 := h.1.2
  rcases rng p1 (k := nf) (by omega) with ⟨f, hf, rfl, w1, w2⟩ | ⟨-, w1, w2⟩
  · have hfl := h.2.2.2.2.1 f hf
    have hfp := hfl.1.1
    have hp := h.2.2.1 _ hfp
    have hpk := hp.1.2.2
    by_cases h2 : -2 ≤ p2 ∧ p2 ≤ 2
    · left
      by_cases hst : M 89 f = 0
      · refine ⟨M 88 f, px_u M (pa (fp f)) 9 p2, px_u (px_u (px_u M (pa (fp f)) 9 p2) 73 0 0) 88 f p2, ?_, ?_, ?_, ?_, ?_, ?_⟩
        · unfold f_X11_bend f_X11_bend_21 f_X8_hasFlap
          simp only [h.2.1.2.2.1, w1, bd1_e, ok_t zb1, if_neg (show ¬ (1 : Int32) = 0 by decide), e_within p2, bI_t h2, ok_t (ix_k (show f < 4 by omega) (by decide : 4 < 2 ^ 31)), nI_clamp (show f < 2 ^ 31 by omega), hfl.1.2.1, ok_t (hk_t hp.1.2.1), nm_u, hfl.2.1.2.1, hfl.2.1.2.2, hst, if_true]
        · have e9 : (px_u (px_u M (pa (fp f)) 9 p2) 73 0 0) 73 10 = nI nf := by simp (disch := omega) only [pu_n]; exact h.2.1.2.2.2.1
          have e89 : (px_u (px_u M (pa (fp f)) 9 p2) 73 0 0) 89 f = 0 := by simp (disch := omega) only [pu_n]; exact hst
          have e88 : (px_u (px_u M (pa (fp f)) 9 p2) 73 0 0) 88 f = M 88 f := by simp (disch := omega) only [pu_n]
          unfold f_X12_bend f_X12_bend_25 f_X12_bend_48
          simp only [nm_u, e9, w2, bd1_e, if_neg (show ¬ (1 : Int32) = 0 by decide), e_bf, if_true, e_in p2, bI_t h2, ok_t (ix_k (show f < 4 by omega) (by decide : 4 < 2 ^ 31)), nI_clamp (show f < 2 ^ 31 by omega), e88, e89]
        · simp (disch := omega) only [pu_n]; exact px_u_in _ _ _ _
        · refine ⟨?_, fun j => ?_⟩ <;> simp (disch := omega) only [pu_n]
        · exact ((kp.rf.u 2 (h.m5 hfp 9) (by decide)).u 0 rfl (by decide)).u 2 rfl (by decide)
        · refine ⟨np, nf, pa, fp, h.updF hf (fun c j e q1 q2 => ?_) ?_ ?_ ?_ ?_⟩
          · have q3 := md_73_0 e (by decide)
            simp (disch := omega) only [pu_n]
          · rw [px_u_in]; simp (disch := omega) only [pu_n]; exact px_u_in _ _ _ _
          · simp (disch := omega) only [pu_n]; exact hfl.2.1.2.2
          · simp (disch := omega) only [pu_n]; exact hfl.2.2.1
          · rw [px_u_in]; exact h2
      · refine ⟨-3, M, px_u M 73 0 0, ?_, ?_, px_u_in _ _ _ _, ⟨rfl, fun _ => rfl⟩, px_0_kp _ _, np, nf, pa, fp, h.u0 0⟩
        · unfold f_X11_bend f_X11_bend_21 f_X8_hasFlap
          simp only [h.2.1.2.2.1, w1, bd1_e, ok_t zb1, if_neg (show ¬ (1 : Int32) = 0 by decide), e_within p2, bI_t h2, ok_t (ix_k (show f < 4 by omega) (by decide : 4 < 2 ^ 31)), nI_clamp (show f < 2 ^ 31 by omega), hfl.1.2.1, ok_t (hk_t hp.1.2.1), nm_u, hfl.2.1.2.1, hfl.2.1.2.2, if_neg hst]
        · have e9 : (px_u M 73 0 0) 73 10 = nI nf := h.2.1.2.2.2.1
          have e89 : (px_u M 73 0 0) 89 f = M 89 f := rfl
          unfold f_X12_bend f_X12_bend_25 f_X12_bend_48
          simp only [nm_u, e9, w2, bd1_e, if_neg (show ¬ (1 : Int32) = 0 by decide), e_bf, if_true, e_in p2, bI_t h2, ok_t (ix_k (show f < 4 by omega) (by decide : 4 < 2 ^ 31)), nI_clamp (show f < 2 ^ 31 by omega), e89, if_neg hst]
    · right; right
      have e9 : (px_u M 73 0 0) 73 10 = nI nf := h.2.1.2.2.2.1
      unfold f_X11_bend f_X12_bend f_X12_bend_25 f_X12_bend_48 f_X12_bend_55 f_X8_hasFlap
      simp only [h.2.1.2.2.1, nm_u, e9, w1, w2, bd1_e, ok_t zb1, if_neg (show ¬ (1 : Int32) = 0 by decide), e_within p2, e_in p2, bI_f h2, e_bf, if_true, e_bt (show ¬ (2 : Int32) = 0 by decide)]
      exact ⟨trivial, trivial⟩
  · right; left
    have e9 : (px_u M 73 0 0) 73 10 = nI nf := h.2.1.2.2.2.1
    unfold f_X11_bend f_X12_bend f_X12_bend_25 f_X12_bend_55 f_X8_hasFlap
    simp only [h.2.1.2.2.1, nm_u, e9, w1, w2, bd1_e, ok_t zb0, if_true, e_bt (show ¬ (1 : Int32) = 0 by decide), if_neg (show ¬ (1 : Int32) = 0 by decide)]
    exact ⟨trivial, trivial⟩
theorem p_stuck (hI : Isail sh M R) (p1 : Int32) {p2 : Int32} (hz2 : zb p2 = true) :
    (∃ r M1 M2, f_X11_stuck sh M R p1 p2 = some (.inl (r, M1)) ∧ f_X12_stuck M1 p1 p2 = some (r, M2) ∧ M2 73 0 = 0 ∧ (M2 6 1 = M 6 1 ∧ ∀ j, M2 84 j = M 84 j) ∧ kp sh [2] M M2 ∧ Isail sh M2 R) ∨ (f_X11_stuck sh M R p1 p2 = some (.inr 2) ∧ f_X12_stuck M p1 p2 = some (0, px_t M 1)) := by
  obtain ⟨np, nf, pa, fp, h⟩ := hI
  have h16 := h.1.2
  rcases rng p1 (k := nf) (by omega) with ⟨f, hf, rfl, w1, w2⟩ | ⟨-, w1, w2⟩
  · left
    have hfl := h.2.2.2.2.1 f hf
    have hfp := hfl.1.1
    have hp := h.2.2.1 _ hfp
    have hpk := hp.1.2.2
    have hz : zb (M 89 f) = true := hfl.2.2.1
    refine ⟨M 89 f, px_u M (pa (fp f)) 10 p2, px_u (px_u (px_u M (pa (fp f)) 10 p2) 73 0 0) 89 f p2, ?_, ?_, ?_, ?_, ?_, ?_⟩
    · unfold f_X11_stuck f_X11_stuck_11 f_X8_hasFlap
      simp only [h.2.1.2.2.1, w1, bd1_e, ok_t zb1, if_neg (show ¬ (1 : Int32) = 0 by decide), ok_t (ix_k (show f < 4 by omega) (by decide : 4 < 2 ^ 31)), nI_clamp (show f < 2 ^ 31 by omega), hfl.1.2.1, ok_t (hk_t hp.1.2.1), nm_u, hfl.2.1.2.2, ok_t hz, ok_t hz2]
    · have e9 : (px_u (px_u M (pa (fp f)) 10 p2) 73 0 0) 73 10 = nI nf := by simp (disch := omega) only [pu_n]; exact h.2.1.2.2.2.1
      have e89 : (px_u (px_u M (pa (fp f)) 10 p2) 73 0 0) 89 f = M 89 f := by simp (disch := omega) only [pu_n]
      unfold f_X12_stuck f_X12_stuck_25
      simp only [nm_u, e9, w2, bd1_e, if_neg (show ¬ (1 : Int32) = 0 by decide), e_bf, if_true, ok_t (ix_k (show f < 4 by omega) (by decide : 4 < 2 ^ 31)), nI_clamp (show f < 2 ^ 31 by omega), e89, ok_t hz, ok_t hz2]
    · simp (disch := omega) only [pu_n]; exact px_u_in _ _ _ _
    · refine ⟨?_, fun j => ?_⟩ <;> simp (disch := omega) only [pu_n]
    · exact ((kp.rf.u 2 (h.m5 hfp 10) (by decide)).u 0 rfl (by decide)).u 2 rfl (by decide)
    · refine ⟨np, nf, pa, fp, h.updF hf (fun c j e q1 q2 => ?_) ?_ ?_ ?_ ?_⟩
      · have q3 := md_73_0 e (by decide)
        simp (disch := omega) only [pu_n]
      · simp (disch := omega) only [pu_n]; exact hfl.2.1.2.1
      · rw [px_u_in]; simp (disch := omega) only [pu_n]; exact px_u_in _ _ _ _
      · rw [px_u_in]; exact hz2
      · simp (disch := omega) only [pu_n]; exact hfl.2.2.2
  · right
    have e9 : (px_u M 73 0 0) 73 10 = nI nf := h.2.1.2.2.2.1
    unfold f_X11_stuck f_X12_stuck f_X12_stuck_25 f_X8_hasFlap
    simp only [h.2.1.2.2.1, nm_u, e9, w1, w2, bd1_e, ok_t zb0, if_true, e_bt (show ¬ (1 : Int32) = 0 by decide), if_neg (show ¬ (1 : Int32) = 0 by decide)]
    exact ⟨trivial, trivial⟩
theorem p_weights (hI : Isail sh M R) (p1 p2 : Int32) :
    (∃ M1 M2, f_X11_weights M p1 p2 = some (.inl M1) ∧ f_X12_weights M1 p1 p2 = some M2 ∧ M2 73 0 = 0 ∧ (M2 6 1 = M 6 1 ∧ ∀ j, M2 84 j = M 84 j) ∧ kp sh [2] M M2 ∧ Isail sh M2 R) ∨ (f_X11_weights M p1 p2 = some (.inr 0) ∧ f_X12_weights M p1 p2 = some (px_t M 1)) := by
  obtain ⟨np, nf, pa, fp, h⟩ := hI
  by_cases hc : (-20 ≤ p1 ∧ p1 ≤ 20) ∧ (-20 ≤ p2 ∧ p2 ≤ 20)
  · left
    refine ⟨px_u (px_u M 6 4 p1) 6 5 p2, px_u (px_u (px_u (px_u (px_u M 6 4 p1) 6 5 p2) 73 0 0) 73 11 p1) 73 12 p2, ?_, ?_, ?_, ?_, ?_, ?_⟩
    · unfold f_X11_weights f_X11_weights_8
      simp only [e_isSpot, bI_t hc, bd1_e, if_neg (show ¬ (1 : Int32) = 0 by decide), nm_u]
    · unfold f_X12_weights f_X12_weights_33
      simp only [nm_u, e_in, bI_t hc.1, bI_t hc.2, bd1_e, if_neg (show ¬ (1 : Int32) = 0 by decide), e_bf, if_true]
    · simp (disch := omega) only [pu_n]; exact px_u_in _ _ _ _
    · refine ⟨?_, fun j => ?_⟩ <;> simp (disch := omega) only [pu_n]
    · exact ((((kp.rf.u 2 rfl (by decide)).u 2 rfl (by decide)).u 0 rfl (by decide)).u 2 rfl (by decide)).u 2 rfl (by decide)
    · refine ⟨np, nf, pa, fp, ?_⟩
      obtain ⟨h1, h2, h3, h4, h5, h6, h7, h8, h9⟩ := h
      have hg : ∀ i, i < np → 220 ≤ pa i := fun i hi => (h3 i hi).1.2.2
      refine ⟨h1, ?_, fun i hi => ?_, h4, fun f hf => ?_, h6, fun i hi q => ?_, h8, h9⟩
      · exact ⟨h2.1, h2.2.1, h2.2.2.1, h2.2.2.2.1, rfl, rfl⟩
      · have := hg i hi
        unfold PanI
        simp (disch := omega) only [pu_n]
        exact h3 i hi
      · have := hg _ (h5 f hf).1.1
        unfold FlapI
        simp (disch := omega) only [pu_n]
        exact h5 f hf
      · have := hg i hi
        simp (disch := omega) only [pu_n]
        exact h7 i hi q
  · right
    unfold f_X11_weights f_X12_weights f_X12_weights_28 f_X12_weights_33
    simp only [e_isSpot, bI_f hc, bd1_e, if_true, nm_u, e_in, e_bt (show ¬ (1 : Int32) = 0 by decide), if_neg (show ¬ (1 : Int32) = 0 by decide)]
    refine ⟨trivial, ?_⟩
    by_cases h1 : -20 ≤ p1 ∧ p1 ≤ 20
    · have h2 : ¬ (-20 ≤ p2 ∧ p2 ≤ 20) := fun q => hc ⟨h1, q⟩
      rw [bI_t h1, if_neg (by decide), bI_f h2, if_pos rfl]
    · rw [bI_f h1, if_pos rfl]
end SAILM
