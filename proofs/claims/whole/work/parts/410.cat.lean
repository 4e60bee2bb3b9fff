/-! offers -/
def S_cat (c j : Nat) : Prop := (61 ≤ c ∧ c ≤ 67) ∨ (c = 73 ∧ (j = 0 ∨ j = 59)) ∨ (215 ≤ c ∧ c ≤ 218)
def Icat (M : px_M) : Prop := ∃ k, k ≤ 12 ∧ M 61 4 = nI k ∧ M 73 59 = nI k ∧ ∀ i, i < k → M 62 i = M 215 i ∧ M 63 i = M 216 i ∧ M 64 i = M 217 i ∧ M 65 i = M 218 i
theorem Icat.fr {M M' : px_M} (h : Icat M) (hf : ∀ c j, S_cat c j → ¬ (c = 73 ∧ j = 0) → M' c j = M c j) : Icat M' := by
  obtain ⟨k, h1, h2, h3, h4⟩ := h
  refine ⟨k, h1, ?_, ?_, fun i hi => ?_⟩
  · rw [hf 61 4 (by unfold S_cat; omega) (by omega)]; exact h2
  · rw [hf 73 59 (by unfold S_cat; omega) (by omega)]; exact h3
  · rw [hf 62 i (by unfold S_cat; omega) (by omega), hf 63 i (by unfold S_cat; omega) (by omega), hf 64 i (by unfold S_cat; omega) (by omega), hf 65 i (by unfold S_cat; omega) (by omega), hf 215 i (by unfold S_cat; omega) (by omega), hf 216 i (by unfold S_cat; omega) (by omega), hf 217 i (by unfold S_cat; omega) (by omega), hf 218 i (by unfold S_cat; omega) (by omega)]
    exact h4 i hi
theorem Icat.u0 {M : px_M} (h : Icat M) (v : Int32) : Icat (px_u M 73 0 v) := h.fr fun c j _ q => pu_n q
theorem c_addOffer {M : px_M} {k : Nat} (hk : k < 12) (h : M 61 4 = nI k) (x y g c : Int32) : f_X0_addOffer M x y g c = some (nI k, px_u (px_u (px_u (px_u (px_u M 62 k x) 63 k y) 64 k g) 65 k c) 61 4 (nI (k + 1))) := by
  have hne : ¬ nI k = 12 := fun q => by have := (nI_12 (by omega)).mp q; omega
  have hc : (nI k).toNatClampNeg = k := nI_clamp (by omega)
  unfold f_X0_addOffer
  simp only [nm_u, h, if_neg hne, ix_ok hk (by decide : 12 < 2 ^ 31), ok_y, hc, pu_n (a := 61) (b := 4) (c := 62) (j := k) (by omega), pu_n (a := 61) (b := 4) (c := 63) (j := k) (by omega), pu_n (a := 61) (b := 4) (c := 64) (j := k) (by omega), pu_n (a := 61) (b := 4) (c := 65) (j := k) (by omega), nI_1]
theorem c_addOffer12 {M : px_M} (h : M 61 4 = nI 12) (x y g c : Int32) : f_X0_addOffer M x y g c = some (-1, M) := by
  unfold f_X0_addOffer
  rw [if_pos (by rw [h]; rfl)]
theorem m_offer {M : px_M} {k : Nat} (hk : k < 12) (h0 : M 73 0 = 0) (h : M 73 59 = nI k) (x y g c : Int32) : f_X12_offer_55 M x y g c 0 = some (nI k, px_u (px_u (px_u (px_u (px_u M 215 k x) 216 k y) 217 k g) 218 k c) 73 59 (nI (k + 1))) := by
  have hne : ¬ nI k = 12 := fun q => by have := (nI_12 (by omega)).mp q; omega
  have hc : (nI k).toNatClampNeg = k := nI_clamp (by omega)
  unfold f_X12_offer_55
  rw [e_bad_f h0, bd1_e, if_pos rfl]
  simp only [nm_u, h, if_neg hne, ix_ok hk (by decide : 12 < 2 ^ 31), ok_y, hc, pu_n (a := 73) (b := 59) (c := 215) (j := k) (by omega), pu_n (a := 73) (b := 59) (c := 216) (j := k) (by omega), pu_n (a := 73) (b := 59) (c := 217) (j := k) (by omega), pu_n (a := 73) (b := 59) (c := 218) (j := k) (by omega), nI_1, px_u_in, nI_pred]
theorem p_offer {M : px_M} (hI : Icat M) (p1 p2 p3 p4 : Int32) :
    (∃ r M1 M2, f_X11_offer M p1 p2 p3 p4 = some (.inl (r, M1)) ∧ f_X12_offer M1 p1 p2 p3 p4 = some (r, M2) ∧ M2 73 0 = 0 ∧ Icat M2 ∧ chg S_cat M M2) ∨
    (∃ b M2, f_X11_offer M p1 p2 p3 p4 = some (.inr 0) ∧ f_X12_offer M p1 p2 p3 p4 = some (b, M2) ∧ M2 73 0 = 1 ∧ Icat M2 ∧ chg S_cat M M2) := by
  have hbad : ∀ M' : px_M, f_X12_offer_50 (px_u M' 73 0 0) p1 p2 p3 p4 = some (0, px_u (px_u M' 73 0 0) 73 0 1) := by
    intro M'
    unfold f_X12_offer_50 f_X12_offer_55
    rw [e_bad_t (px_u_in _ _ _ _) (by decide), bd1_e]
    rfl
  have hg : (∀ M', f_X11_offer M' p1 p2 p3 p4 = bd1 (f_X11_offer_38 M' p1 p2 p3 p4) (fun e => some (.inl e)) ∧ f_X12_offer M' p1 p2 p3 p4 = f_X12_offer_55 (px_u M' 73 0 0) p1 p2 p3 p4 0) ∨ (∀ M', f_X11_offer M' p1 p2 p3 p4 = some (.inr 0) ∧ f_X12_offer M' p1 p2 p3 p4 = some (0, px_u (px_u M' 73 0 0) 73 0 1)) := by
    by_cases h1 : -20 ≤ p1 ∧ p1 ≤ 20 <;> by_cases h2 : -20 ≤ p2 ∧ p2 ≤ 20 <;> by_cases h3 : 0 ≤ p3 ∧ p3 ≤ 1000 <;> by_cases h4 : 0 ≤ p4 ∧ p4 ≤ 100 <;>
    first
    | (left; intro M'; unfold f_X11_offer f_X12_offer f_X11_offer_35; simp [e_isSpot, e_within, e_in, bd1_e, nm_u, bI_0, h1, h2, h3, h4]; done)
    | (right; intro M'; unfold f_X11_offer f_X12_offer f_X11_offer_34 f_X11_offer_35; simp [e_isSpot, e_within, e_in, bd1_e, nm_u, bI_0, h1, h2, h3, h4, hbad]; done)
  rcases hg with hg | hg
  · left
    obtain ⟨k, hk, e1, e2, e3⟩ := hI
    by_cases hk2 : k = 12
    · subst hk2
      refine ⟨-1, M, px_u M 73 0 0, ?_, ?_, px_u_in _ _ _ _, Icat.u0 ⟨12, hk, e1, e2, e3⟩ 0, chg.rf.u (by unfold S_cat; omega)⟩
      · rw [(hg M).1, f_X11_offer_38, c_addOffer12 e1]; rfl
      · rw [(hg M).2]
        unfold f_X12_offer_55
        rw [e_bad_f (px_u_in _ _ _ _), bd1_e, if_pos rfl, if_pos]
        show (px_u M 73 0 0) 73 59 = 12
        rw [pu_n (by omega), e2]; rfl
    · refine ⟨nI k, _, _, by rw [(hg M).1, f_X11_offer_38, c_addOffer (by omega) e1]; rfl, by rw [(hg _).2]; exact m_offer (k := k) (by omega) (px_u_in _ _ _ _) (by simp [px_u, e2]) p1 p2 p3 p4, ?_, ?_, ?_⟩
      · simp [px_u]
      · refine ⟨k + 1, by omega, by simp [px_u], by simp [px_u], fun i hi => ?_⟩
        by_cases hi2 : i = k
        · subst hi2
          simp [px_u]
        · have := e3 i (by omega)
          simp [px_u, hi2, this]
      · repeat (first | exact chg.rf | (refine chg.u ?_ (by unfold S_cat; omega)))
  · right
    refine ⟨0, _, (hg M).1, (hg M).2, px_u_in _ _ _ _, (hI.u0 0).u0 1, (chg.rf.u (by unfold S_cat; omega)).u (by unfold S_cat; omega)⟩
