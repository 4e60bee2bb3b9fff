/-! the reference's day with a given steer -/
section MDAY
variable {M : px_M} {np d r a nd s k : Nat}
theorem e_goes2 (hr : r ≤ 255) (ha : a < 72) (hs : s ≤ 20) (hk : k < 3) : f_X12_goesTo (nI r) (nI a) (nI k) (nI s) = some (gI ((nxt s r k).map fun q => 72 * q + (a + trn r) % 72)) := by
  have h := e_goes (s := s) (p := 72 * r + a) (k := k) (by omega) hs hk
  have a1 : (72 * r + a) / 72 = r := by omega
  have a2 : (72 * r + a) % 72 = a := by omega
  rw [show (72 : Int32) = nI 72 from rfl, pk_rem (by omega) (by decide) (by decide), pk_div (by omega) (by decide) (by decide), a1, a2] at h
  rw [h]
  unfold gt
  rw [a1, a2]
theorem m_day (hnp : np ≤ 16) (hd : d < 2000) (hr : r ≤ 255) (ha : a < 72) (hs : s ≤ 20) (hk : k < 3) (hnd : nd ≤ 20) (h9 : M 73 9 = nI np) (h41 : M 73 41 = nI nd) (h24 : M 73 24 = nI d) (h25 : M 73 25 = nI r) (h26 : M 73 26 = nI a) (hD : ∀ k, k < nd → ∃ p, p < np ∧ M 179 k = nI p) :
    ∃ M', f_X12_flyDay_25 M (nI s) (nI k) = some M' ∧ (M' 73 24 = nI (d + 1) ∧ M' 73 25 = nI (rho' s r k) ∧ M' 73 26 = nI ((a + trn r) % 72)) ∧ (M' 181 d = nI (stK s r k) ∧ M' 182 d = nI (rho' s r k) ∧ M' 183 d = nI ((a + trn r) % 72) ∧ M' 184 d = nI s) ∧
      (∀ i, i < np → DayP (M 179) (M 180) d nd i (nI (rho' s r k)) (bI (d % 10 = 9)) (M 82 i) (M 83 i) (M 86 i) (M 84 i) (M 85 i) (M' 82 i) (M' 83 i) (M' 86 i) (M' 84 i) (M' 85 i)) ∧
      ∀ c j, ¬ (c = 73 ∧ 24 ≤ j ∧ j ≤ 26) → ¬ (181 ≤ c ∧ c ≤ 184 ∧ j = d) → ¬ (82 ≤ c ∧ c ≤ 86 ∧ j < np) → M' c j = M c j := by
  have rb : rho' s r k ≤ 255 := rho'_b hr
  have ab : (a + trn r) % 72 < 72 := Nat.mod_lt _ (by decide)
  obtain ⟨a1, ha1⟩ : ∃ a1, a1 = (a + trn r) % 72 := ⟨_, rfl⟩
  obtain ⟨r1, hr1⟩ : ∃ r1, r1 = rho' s r k := ⟨_, rfl⟩
  have main : ∀ x2 : Int32, ∃ M', f_X12_flyDay_61 M (nI s) x2 (nI (72 * r1 + a1)) = some M' ∧ (M' 73 24 = nI (d + 1) ∧ M' 73 25 = nI r1 ∧ M' 73 26 = nI a1) ∧ (M' 181 d = x2 ∧ M' 182 d = nI r1 ∧ M' 183 d = nI a1 ∧ M' 184 d = nI s) ∧
      (∀ i, i < np → DayP (M 179) (M 180) d nd i (nI r1) (bI (d % 10 = 9)) (M 82 i) (M 83 i) (M 86 i) (M 84 i) (M 85 i) (M' 82 i) (M' 83 i) (M' 86 i) (M' 84 i) (M' 85 i)) ∧
      ∀ c j, ¬ (c = 73 ∧ 24 ≤ j ∧ j ≤ 26) → ¬ (181 ≤ c ∧ c ≤ 184 ∧ j = d) → ¬ (82 ≤ c ∧ c ≤ 86 ∧ j < np) → M' c j = M c j := by
    intro x2
    rw [← ha1] at ab
    rw [← hr1] at rb
    have e1 : nI (72 * r1 + a1) / 72 = nI r1 := by
      rw [show (72 : Int32) = nI 72 from rfl, pk_div (by omega) (by decide) (by decide), show (72 * r1 + a1) / 72 = r1 by omega]
    have e2 : nI (72 * r1 + a1) - nI (72 * r1 + a1) / 72 * 72 = nI a1 := by
      rw [show (72 : Int32) = nI 72 from rfl, pk_rem (by omega) (by decide) (by decide), show (72 * r1 + a1) % 72 = a1 by omega]
    obtain ⟨Ma, hMa⟩ : ∃ Ma, Ma = px_u (px_u M 73 25 (nI r1)) 73 26 (nI a1) := ⟨_, rfl⟩
    have ma : ∀ c j, ¬ (c = 73 ∧ 24 ≤ j ∧ j ≤ 26) → Ma c j = M c j := fun c j hc => by rw [hMa, pu_n (by omega), pu_n (by omega)]
    have ma24 : Ma 73 24 = nI d := by rw [hMa, pu_n (by omega), pu_n (by omega)]; exact h24
    have ma25 : Ma 73 25 = nI r1 := by rw [hMa, pu_n (by omega)]; exact px_u_in _ _ _ _
    have ma26 : Ma 73 26 = nI a1 := by rw [hMa]; exact px_u_in _ _ _ _
    obtain ⟨Mb, b1, b2, b3⟩ := m_tear (M := Ma) (np := np) (nd := nd) (d := d) hnp hnd (by rw [ma 73 41 (by omega)]; exact h41) ma24 (fun k hk => by rw [ma 179 k (by omega)]; exact hD k hk) (nI s) x2
    obtain ⟨Mc, c1, c2, c3⟩ := m_lives (M := Mb) (np := np) (d := d) (r := r1) hnp (by omega) rb (by rw [b2 73 9 (by omega), ma 73 9 (by omega)]; exact h9) (by rw [b2 73 24 (by omega)]; exact ma24) (by rw [b2 73 25 (by omega)]; exact ma25) (nI s) x2
    have mc : ∀ c j, ¬ (82 ≤ c ∧ c ≤ 86 ∧ j < np) → Mc c j = Ma c j := fun c j hc => by rw [c2 c j (by omega), b2 c j (by omega)]
    have mc24 : Mc 73 24 = nI d := by rw [mc 73 24 (by omega)]; exact ma24
    have mc25 : Mc 73 25 = nI r1 := by rw [mc 73 25 (by omega)]; exact ma25
    have mc26 : Mc 73 26 = nI a1 := by rw [mc 73 26 (by omega)]; exact ma26
    have hx : ix (nI d) 2000 = true := ix_k hd (by decide)
    have cd : (nI d).toNatClampNeg = d := nI_clamp (by omega)
    obtain ⟨M4, hM4⟩ : ∃ M4, M4 = px_u (px_u (px_u (px_u (px_u Mc 181 d x2) 182 d (nI r1)) 183 d (nI a1)) 184 d (nI s)) 73 24 (nI (d + 1)) := ⟨_, rfl⟩
    have run : f_X12_flyDay_61 M (nI s) x2 (nI (72 * r1 + a1)) = some M4 := by
      unfold f_X12_flyDay_61
      rw [e2, e1, nm_u, nm_u, nm_u, nm_u, ← hMa, b1, bd1_e, c1, bd1_e, mc24, ok_t hx, cd, nm_u]
      simp (disch := omega) only [pu_n, mc24, mc25, mc26, nm_u, cd, ok_t hx, nI_1]
      rw [hM4]
    refine ⟨M4, run, ⟨?_, ?_, ?_⟩, ⟨?_, ?_, ?_, ?_⟩, fun i hi => ?_, fun c j q1 q2 q3 => ?_⟩
    · rw [hM4]; exact px_u_in _ _ _ _
    · rw [hM4]; simp (disch := omega) only [pu_n]; exact mc25
    · rw [hM4]; simp (disch := omega) only [pu_n]; exact mc26
    · rw [hM4]; simp (disch := omega) only [pu_n]; exact px_u_in _ _ _ _
    · rw [hM4]; simp (disch := omega) only [pu_n]; exact px_u_in _ _ _ _
    · rw [hM4]; simp (disch := omega) only [pu_n]; exact px_u_in _ _ _ _
    · rw [hM4]; simp (disch := omega) only [pu_n]; exact px_u_in _ _ _ _
    · have fin : ∀ c, c < 100 → c ≠ 73 → M4 c i = Mc c i := fun c q1 q2 => by rw [hM4]; simp (disch := omega) only [pu_n]
      have hv := c3 i hi
      have mid : ∀ c, 82 ≤ c → c ≤ 85 → Mb c i = M c i := fun c q1 q2 => by rw [b2 c i (by omega), ma c i (by omega)]
      rw [mid 82 (by omega) (by omega), mid 83 (by omega) (by omega), mid 84 (by omega) (by omega), mid 85 (by omega) (by omega)] at hv
      rw [fin 82 (by omega) (by omega), fin 83 (by omega) (by omega), fin 84 (by omega) (by omega), fin 85 (by omega) (by omega), fin 86 (by omega) (by omega)]
      have e16 : Ma 179 = M 179 := funext fun j => ma 179 j (by omega)
      have e17 : Ma 180 = M 180 := funext fun j => ma 180 j (by omega)
      obtain ⟨t1, t2⟩ := b3 i hi
      rw [e16, e17, ma 86 i (by omega)] at t2
      rw [e16, e17] at t1
      exact ⟨Mb 86 i, t1, t2, hv⟩
    · rw [hM4]
      simp (disch := omega) only [pu_n]
      rw [mc c j q3]; exact ma c j q1
  unfold f_X12_flyDay_25 stK
  rw [h25, h26, e_goes2 hr ha hs hk, bd1_e, ← ha1, ← hr1]
  cases hn : nxt s r k with
  | none =>
    have e3 : r1 = r := by rw [hr1]; unfold rho'; rw [hn]; rfl
    rw [if_pos (show gI (Option.map (fun q => 72 * q + a1) none) = -1 from rfl), if_pos rfl, show (1 : Int32) = nI 1 from rfl, e_goes2 hr ha hs (by decide), bd1_e, ← ha1]
    have h := main (nI 1)
    rw [e3] at h ⊢
    exact h
  | some q =>
    have e3 : r1 = q := by rw [hr1]; unfold rho'; rw [hn]; rfl
    have hq := nxt_b hr hn
    rw [if_neg (show ¬ gI (Option.map (fun q => 72 * q + a1) (some q)) = -1 from nI_ne1 (show 72 * q + a1 < 2 ^ 31 by rw [← ha1] at ab; omega)), if_neg (by simp)]
    have h := main (nI k)
    rw [e3] at h ⊢
    exact h
end MDAY
