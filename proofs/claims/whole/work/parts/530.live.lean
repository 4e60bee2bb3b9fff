/-! a day of a panel's life -/
def lz (rho v4 v7 : Int32) : Int32 := if v4 * 100 * 32 / (rho + 32) / 100 ≤ 20 then 0 else v7 + 1
def l6 (rho v4 v6 v7 : Int32) : Int32 := if lz rho v4 v7 = 5 then (if 2 ≤ v6 then 2 else v6 + 1) else v6
def l7 (rho v4 v7 : Int32) : Int32 := if lz rho v4 v7 = 5 then 0 else lz rho v4 v7
def l3 (nine v3 : Int32) : Int32 := if nine = 0 then v3 else if v3 ≤ 0 then v3 else v3 - 1
def l4 (nine v3 v4 : Int32) : Int32 := if nine = 0 then v4 else if v3 ≤ 0 then v4 else v4 + 1
section LIVE
variable {sh : px_Sh} {M : px_M} {R : px_R} {A : Nat}
theorem min2 {v : Int32} (h : 0 ≤ v ∧ v ≤ 2) : (if v + 1 < 2 then v + 1 else 2) = if 2 ≤ v then 2 else v + 1 := by
  obtain ⟨j, hj, rfl⟩ := nI_of2 (M := 2) (n := 2) (by decide) (Int32.not_lt.mpr h.1) h.2
  obtain rfl | rfl | rfl : j = 0 ∨ j = 1 ∨ j = 2 := by omega
  · decide
  · decide
  · decide
theorem c_live (hA : sh A = some (5, 0)) (rho nine : Int32) (hp : 0 ≤ rho) (hz : nz (rho + 32) 0 = true) (h6 : 0 ≤ M A 6 ∧ M A 6 ≤ 2) :
    ∃ M', f_X5_live sh M A rho nine = some M' ∧ (∀ c j, ¬ (c = A ∧ (j = 3 ∨ j = 4 ∨ j = 6 ∨ j = 7)) → M' c j = M c j) ∧ M' A 3 = l3 nine (M A 3) ∧ M' A 4 = l4 nine (M A 3) (M A 4) ∧ M' A 6 = l6 rho (M A 4) (M A 6) (M A 7) ∧ M' A 7 = l7 rho (M A 4) (M A 7) := by
  have last : ∀ Mx : px_M, ∃ M', f_X5_live_78 sh Mx A nine = some M' ∧ (∀ c j, ¬ (c = A ∧ (j = 3 ∨ j = 4)) → M' c j = Mx c j) ∧ M' A 3 = l3 nine (Mx A 3) ∧ M' A 4 = l4 nine (Mx A 3) (Mx A 4) := by
    intro Mx
    unfold f_X5_live_78 f_X5_live_109 l3 l4
    by_cases q : nine = 0
    · rw [if_pos q, if_pos q, if_pos q]
      exact ⟨Mx, rfl, fun _ _ _ => rfl, rfl, rfl⟩
    · rw [if_neg q, if_neg q, if_neg q, ok_t (hk_t hA)]
      by_cases q2 : Mx A 3 ≤ 0
      · rw [if_pos q2, if_pos q2, if_pos q2]
        exact ⟨Mx, rfl, fun _ _ _ => rfl, rfl, rfl⟩
      · rw [if_neg q2, if_neg q2, if_neg q2, ok_t (hk_t hA), nm_u, ok_t (hk_t hA), nm_u, ok_t (hk_t hA), pu_n (show ¬ (A = A ∧ 4 = 3) by omega), nm_u, ok_t (hk_t hA), nm_u]
        refine ⟨_, rfl, fun c j hc => ?_, ?_, px_u_in _ _ _ _⟩
        · rw [pu_n (by omega), pu_n (by omega)]
        · rw [pu_n (by omega)]; exact px_u_in _ _ _ _
  have mid : ∀ z, f_X5_live_48 sh M A nine z A = f_X5_live_78 sh (if z = 5 then px_u (px_u (px_u M A 7 z) A 7 0) A 6 (if 2 ≤ M A 6 then 2 else M A 6 + 1) else px_u M A 7 z) A nine := by
    intro z
    unfold f_X5_live_48
    rw [ok_t (hk_t hA), nm_u, ok_t (hk_t hA), px_u_in]
    by_cases q : z = 5
    · rw [if_pos q, if_pos q, ok_t (hk_t hA), nm_u, ok_t (hk_t hA), pu_n (show ¬ (A = A ∧ 6 = 7) by omega), pu_n (show ¬ (A = A ∧ 6 = 7) by omega), e_min, bd1_e, ok_t (hk_t hA), nm_u, min2 h6]
    · rw [if_neg q, if_neg q]
  have head : f_X5_live sh M A rho nine = f_X5_live_48 sh M A nine (lz rho (M A 4) (M A 7)) A := by
    unfold f_X5_live f_X5_live_31 f_X5_live_32 lz
    rw [if_neg (Int32.not_lt.mpr hp), ok_t (hk_t hA), ok_t hz]
    by_cases q : M A 4 * 100 * 32 / (rho + 32) / 100 ≤ 20
    · rw [if_pos q, if_pos q, if_pos rfl]
    · rw [if_neg q, if_neg q, if_neg (by decide), ok_t (hk_t hA)]
  rw [head, mid]
  unfold l6 l7
  obtain ⟨z, hzz⟩ : ∃ z, z = lz rho (M A 4) (M A 7) := ⟨_, rfl⟩
  rw [← hzz]
  by_cases q : z = 5
  · rw [if_pos q, if_pos q, if_pos q]
    obtain ⟨M', g1, g2, g3, g4⟩ := last (px_u (px_u (px_u M A 7 z) A 7 0) A 6 (if 2 ≤ M A 6 then 2 else M A 6 + 1))
    simp (disch := omega) only [pu_n] at g3 g4
    refine ⟨M', g1, fun c j hc => ?_, g3, g4, ?_, ?_⟩
    · rw [g2 c j (by omega), pu_n (by omega), pu_n (by omega), pu_n (by omega)]
    · rw [g2 A 6 (by omega)]; exact px_u_in _ _ _ _
    · rw [g2 A 7 (by omega), pu_n (by omega)]; exact px_u_in _ _ _ _
  · rw [if_neg q, if_neg q, if_neg q]
    obtain ⟨M', g1, g2, g3, g4⟩ := last (px_u M A 7 z)
    simp (disch := omega) only [pu_n] at g3 g4
    refine ⟨M', g1, fun c j hc => ?_, g3, g4, ?_, ?_⟩
    · rw [g2 c j (by omega), pu_n (by omega)]
    · rw [g2 A 6 (by omega), pu_n (by omega)]
    · rw [g2 A 7 (by omega)]; exact px_u_in _ _ _ _
/-- the reference's day of panel i -/
theorem m_live {i np d r : Nat} (hi : i < np) (hnp : np ≤ 16) (hr : r ≤ 255) (h9 : M 73 9 = nI np) (h25 : M 73 25 = nI r) (h24 : M 73 24 = nI d) (hd : d ≤ 2000) (x1 x2 : Int32) :
    ∃ M', f_X12_flyDay_125 M x1 x2 (nI i) = some (.inl (nI (i + 1), M')) ∧ (∀ c j, ¬ ((c = 82 ∨ c = 83 ∨ c = 84 ∨ c = 85) ∧ j = i) → M' c j = M c j) ∧
      (M 86 i = 0 → M' 82 i = l3 (bI (d % 10 = 9)) (M 82 i) ∧ M' 83 i = l4 (bI (d % 10 = 9)) (M 82 i) (M 83 i) ∧ M' 84 i = l6 (nI r) (M 83 i) (M 84 i) (M 85 i) ∧ M' 85 i = l7 (nI r) (M 83 i) (M 85 i)) ∧ (M 86 i ≠ 0 → M' = M) := by
  have hx : ix (nI i) 16 = true := ix_k (show i < 16 by omega) (by decide)
  have ci : (nI i).toNatClampNeg = i := nI_clamp (by omega)
  have nine : (nI d - nI d / 10 * 10 = 9) ↔ d % 10 = 9 := by
    rw [show (10 : Int32) = nI 10 from rfl, pk_rem (by omega) (by decide) (by decide), show (9 : Int32) = nI 9 from rfl, nI_eq (by omega) (by decide)]
  have last : ∀ Mx : px_M, Mx 73 24 = nI d → ∃ M', f_X12_flyDay_246 Mx x1 x2 (nI i) = some (.inl (nI (i + 1), M')) ∧ (∀ c j, ¬ ((c = 82 ∨ c = 83) ∧ j = i) → M' c j = Mx c j) ∧ M' 82 i = l3 (bI (d % 10 = 9)) (Mx 82 i) ∧ M' 83 i = l4 (bI (d % 10 = 9)) (Mx 82 i) (Mx 83 i) := by
    intro Mx hM
    unfold f_X12_flyDay_246 f_X12_flyDay_290 l3 l4
    rw [hM, ifi nine, nI_1, ci]
    by_cases q : d % 10 = 9
    · rw [if_pos q, bI_t q, if_neg (show ¬ (1 : Int32) = 0 by decide), if_neg (show ¬ (1 : Int32) = 0 by decide), ok_t hx]
      by_cases q2 : Mx 82 i ≤ 0
      · rw [if_pos q2, if_pos q2, if_pos q2]
        exact ⟨Mx, rfl, fun _ _ _ => rfl, rfl, rfl⟩
      · rw [if_neg q2, if_neg q2, if_neg q2, ok_t hx, nm_u, ok_t hx, nm_u, ok_t hx, pu_n (show ¬ ((83 : Nat) = 82 ∧ i = i) by omega), nm_u, ok_t hx, nm_u]
        refine ⟨_, rfl, fun c j hc => ?_, ?_, px_u_in _ _ _ _⟩
        · rw [pu_n (by omega), pu_n (by omega)]
        · rw [pu_n (by omega)]; exact px_u_in _ _ _ _
    · rw [if_neg q, bI_f q, if_pos rfl, if_pos rfl]
      exact ⟨Mx, rfl, fun _ _ _ => rfl, rfl, rfl⟩
  by_cases q0 : M 86 i = 0
  · have mid : ∀ z, f_X12_flyDay_195 M x1 x2 (nI i) z (nI i) = f_X12_flyDay_246 (if z = 5 then px_u (px_u (px_u M 85 i z) 84 i (if 2 ≤ M 84 i then 2 else M 84 i + 1)) 85 i 0 else px_u M 85 i z) x1 x2 (nI i) := by
      intro z
      unfold f_X12_flyDay_195 f_X12_flyDay_237
      rw [ci, ok_t hx, nm_u, ok_t hx, px_u_in]
      by_cases q : z = 5
      · rw [if_pos q, if_pos q, ok_t hx, pu_n (show ¬ ((84 : Nat) = 85 ∧ i = i) by omega)]
        by_cases q2 : 2 ≤ M 84 i
        · rw [if_pos q2, if_pos q2, ok_t hx, nm_u, ok_t hx, nm_u]
        · rw [if_neg q2, if_neg q2, ok_t hx, ok_t hx, nm_u, ok_t hx, nm_u]
      · rw [if_neg q, if_neg q]
    have head : f_X12_flyDay_125 M x1 x2 (nI i) = f_X12_flyDay_195 M x1 x2 (nI i) (lz (nI r) (M 83 i) (M 85 i)) (nI i) := by
      unfold f_X12_flyDay_125 lz
      rw [h9, if_neg (nI_ge hi (by omega)), ok_t hx, ci, if_pos q0, ok_t hx, h25, ok_t (nz32 hr)]
      by_cases q : M 83 i * 100 * 32 / (nI r + 32) / 100 ≤ 20
      · rw [if_pos q, if_pos q]
      · rw [if_neg q, if_neg q, ok_t hx]
    rw [head, mid]
    unfold l6 l7
    obtain ⟨z, hzz⟩ : ∃ z, z = lz (nI r) (M 83 i) (M 85 i) := ⟨_, rfl⟩
    rw [← hzz]
    by_cases q : z = 5
    · rw [if_pos q, if_pos q, if_pos q]
      obtain ⟨M', g1, g2, g3, g4⟩ := last (px_u (px_u (px_u M 85 i z) 84 i (if 2 ≤ M 84 i then 2 else M 84 i + 1)) 85 i 0) (by simp (disch := omega) only [pu_n]; exact h24)
      simp (disch := omega) only [pu_n] at g3 g4
      refine ⟨M', g1, fun c j hc => ?_, fun _ => ⟨g3, g4, ?_, ?_⟩, fun z => absurd q0 z⟩
      · rw [g2 c j (by omega), pu_n (by omega), pu_n (by omega), pu_n (by omega)]
      · rw [g2 84 i (by omega), pu_n (by omega)]; exact px_u_in _ _ _ _
      · rw [g2 85 i (by omega)]; exact px_u_in _ _ _ _
    · rw [if_neg q, if_neg q, if_neg q]
      obtain ⟨M', g1, g2, g3, g4⟩ := last (px_u M 85 i z) (by simp (disch := omega) only [pu_n]; exact h24)
      simp (disch := omega) only [pu_n] at g3 g4
      refine ⟨M', g1, fun c j hc => ?_, fun _ => ⟨g3, g4, ?_, ?_⟩, fun z => absurd q0 z⟩
      · rw [g2 c j (by omega), pu_n (by omega)]
      · rw [g2 84 i (by omega), pu_n (by omega)]
      · rw [g2 85 i (by omega)]; exact px_u_in _ _ _ _
  · refine ⟨M, ?_, fun _ _ _ => rfl, fun z => absurd z q0, fun _ => rfl⟩
    unfold f_X12_flyDay_125 f_X12_flyDay_290
    rw [h9, if_neg (nI_ge hi (by omega)), ok_t hx, ci, if_neg q0, nI_1]
end LIVE
