/-! a day flown with a given steer -/
def stK (s r k : Nat) : Nat := if nxt s r k = none then 1 else k
def rho' (s r k : Nat) : Nat := (nxt s r k).getD r
def DayP (dp dd : Nat → Int32) (d nd i : Nat) (rho nine v3 v4 v5 v6 v7 w3 w4 w5 w6 w7 : Int32) : Prop := ∃ t, (hit dp dd d nd i → t = 1) ∧ (¬ hit dp dd d nd i → t = v5) ∧ LV rho nine v3 v4 t v6 v7 w3 w4 w5 w6 w7
theorem DayP.uniq {dp dd : Nat → Int32} {d nd i : Nat} {rho nine v3 v4 v5 v6 v7 w3 w4 w5 w6 w7 x3 x4 x5 x6 x7 : Int32} (h : DayP dp dd d nd i rho nine v3 v4 v5 v6 v7 w3 w4 w5 w6 w7) (g : DayP dp dd d nd i rho nine v3 v4 v5 v6 v7 x3 x4 x5 x6 x7) : w3 = x3 ∧ w4 = x4 ∧ w5 = x5 ∧ w6 = x6 ∧ w7 = x7 := by
  obtain ⟨t, h1, h2, h3⟩ := h
  obtain ⟨t', g1, g2, g3⟩ := g
  have : t = t' := by
    by_cases q : hit dp dd d nd i
    · exact (h1 q).trans (g1 q).symm
    · exact (h2 q).trans (g2 q).symm
  subst this
  exact h3.uniq g3
theorem rho'_b {s r k : Nat} (hr : r ≤ 255) : rho' s r k ≤ 255 := by
  unfold rho'
  cases h : nxt s r k with
  | none => exact hr
  | some q => exact nxt_b hr h
theorem st_3 {s r k : Nat} (hk : k < 3) : stK s r k < 3 := by
  unfold stK; split <;> omega
section DAY
variable {sh : px_Sh} {M : px_M} {R : px_R} {np d r a nd s k : Nat} {pa : Nat → Nat}
theorem c_note {Mx : px_M} (hd : d < 2000) (h0 : Mx 14 0 = nI d) (p1 p2 : Int32) : ∃ M', f_X9_takeNote Mx p1 p2 = some M' ∧ (∀ c j, ¬ (c = 18 ∧ 4 * (d % 64) ≤ j ∧ j < 4 * (d % 64) + 4) → M' c j = Mx c j) ∧ M' 18 (4 * (d % 64)) = p1 ∧ M' 18 (4 * (d % 64) + 1) = Mx 14 1 ∧ M' 18 (4 * (d % 64) + 2) = Mx 14 2 ∧ M' 18 (4 * (d % 64) + 3) = p2 := by
  have e : 4 * (nI d - nI d / 64 * 64) = nI (4 * (d % 64)) := by rw [show (64 : Int32) = nI 64 from rfl, pk_rem (by omega) (by decide) (by decide), show (4 : Int32) = nI 4 from rfl, pk_mul]
  obtain ⟨b, hb⟩ : ∃ b, b = 4 * (d % 64) := ⟨_, rfl⟩
  have hb2 : b + 3 < 256 := by omega
  unfold f_X9_takeNote
  rw [h0, e, ← hb, nm_u, ok_t (ix_k (show b < 256 by omega) (by decide)), nm_u, pu_n (show ¬ ((14 : Nat) = 18 ∧ _) by omega), nm_u, show nI b + 1 = nI (b + 1) from nI_add b 1, show nI b + 2 = nI (b + 2) from nI_add b 2, show nI b + 3 = nI (b + 3) from nI_add b 3, ok_t (ix_k (show b + 1 < 256 by omega) (by decide)), nm_u, pu_n (show ¬ ((14 : Nat) = 18 ∧ _) by omega), pu_n (show ¬ ((14 : Nat) = 18 ∧ _) by omega), nm_u, ok_t (ix_k (show b + 2 < 256 by omega) (by decide)), nm_u, ok_t (ix_k (show b + 3 < 256 by omega) (by decide)), nm_u, nI_clamp (show b < 2 ^ 31 by omega), nI_clamp (show b + 1 < 2 ^ 31 by omega), nI_clamp (show b + 2 < 2 ^ 31 by omega), nI_clamp (show b + 3 < 2 ^ 31 by omega)]
  refine ⟨_, rfl, fun c j hc => ?_, ?_, ?_, ?_, px_u_in _ _ _ _⟩
  · rw [pu_n (by omega), pu_n (by omega), pu_n (by omega), pu_n (by omega)]
  · rw [pu_n (by omega), pu_n (by omega), pu_n (by omega)]; exact px_u_in _ _ _ _
  · rw [pu_n (by omega), pu_n (by omega)]; exact px_u_in _ _ _ _
  · rw [pu_n (by omega)]; exact px_u_in _ _ _ _
theorem c_day (hP : PaC sh M R np pa) (hd : d < 2000) (hr : r ≤ 255) (ha : a < 72) (hs : s ≤ 20) (hk : k < 3) (hnd : nd ≤ 20) (h8 : M 14 8 = nI nd) (h0 : M 14 0 = nI d) (h1 : M 14 1 = nI r) (h2 : M 14 2 = nI a) (hD : ∀ k, k < nd → ∃ p, p < np ∧ M 16 k = nI p) (h6 : ∀ i, i < np → 0 ≤ M (pa i) 6 ∧ M (pa i) 6 ≤ 2) :
    ∃ M', f_X9_flyDay_30 sh M R (nI s) (nI k) = some M' ∧ (M' 14 0 = nI (d + 1) ∧ M' 14 1 = nI (rho' s r k) ∧ M' 14 2 = nI ((a + trn r) % 72)) ∧ (M' 18 (4 * (d % 64)) = nI (stK s r k) ∧ M' 18 (4 * (d % 64) + 1) = nI (rho' s r k) ∧ M' 18 (4 * (d % 64) + 2) = nI ((a + trn r) % 72) ∧ M' 18 (4 * (d % 64) + 3) = nI s) ∧
      (∀ i, i < np → DayP (M 16) (M 17) d nd i (nI (rho' s r k)) (bI (d % 10 = 9)) (M (pa i) 3) (M (pa i) 4) (M (pa i) 5) (M (pa i) 6) (M (pa i) 7) (M' (pa i) 3) (M' (pa i) 4) (M' (pa i) 5) (M' (pa i) 6) (M' (pa i) 7)) ∧
      ∀ c j, ¬ (c = 14 ∧ j < 3) → ¬ (c = 18 ∧ 4 * (d % 64) ≤ j ∧ j < 4 * (d % 64) + 4) → ¬ (3 ≤ j ∧ j ≤ 7 ∧ ∃ i, i < np ∧ c = pa i) → M' c j = M c j := by
  have hP' := hP
  obtain ⟨p1, p2, p3, p4⟩ := hP
  have tb := trn_b r
  have rb : rho' s r k ≤ 255 := rho'_b hr
  have main : ∀ k', k' < 3 → nxt s r k' = some (rho' s r k) → ∃ M', f_X9_flyDay_55 sh M R (nI s) (nI k') = some M' ∧ (M' 14 0 = nI (d + 1) ∧ M' 14 1 = nI (rho' s r k) ∧ M' 14 2 = nI ((a + trn r) % 72)) ∧ (M' 18 (4 * (d % 64)) = nI k' ∧ M' 18 (4 * (d % 64) + 1) = nI (rho' s r k) ∧ M' 18 (4 * (d % 64) + 2) = nI ((a + trn r) % 72) ∧ M' 18 (4 * (d % 64) + 3) = nI s) ∧
      (∀ i, i < np → DayP (M 16) (M 17) d nd i (nI (rho' s r k)) (bI (d % 10 = 9)) (M (pa i) 3) (M (pa i) 4) (M (pa i) 5) (M (pa i) 6) (M (pa i) 7) (M' (pa i) 3) (M' (pa i) 4) (M' (pa i) 5) (M' (pa i) 6) (M' (pa i) 7)) ∧
      ∀ c j, ¬ (c = 14 ∧ j < 3) → ¬ (c = 18 ∧ 4 * (d % 64) ≤ j ∧ j < 4 * (d % 64) + 4) → ¬ (3 ≤ j ∧ j ≤ 7 ∧ ∃ i, i < np ∧ c = pa i) → M' c j = M c j := by
    intro k' hk' hn
    obtain ⟨x, x1, x2⟩ := e_rho (r := r) (s := s) (k := k') hr hs hk'
    have ex : x = nI (rho' s r k) := by
      rcases x2 with ⟨q, q1, -, q2⟩ | ⟨q1, -⟩
      · rw [hn] at q1; rw [q2, Option.some.inj q1]
      · rw [hn] at q1; cases q1
    rw [ex] at x1
    obtain ⟨r1, hr1⟩ : ∃ r1, r1 = rho' s r k := ⟨_, rfl⟩
    rw [← hr1] at x1 rb ⊢
    obtain ⟨Ma, hMa⟩ : ∃ Ma, Ma = px_u (px_u M 14 2 (nI ((a + trn r) % 72))) 14 1 (nI r1) := ⟨_, rfl⟩
    have ma : ∀ c j, ¬ (c = 14 ∧ j < 3) → Ma c j = M c j := fun c j hc => by rw [hMa, pu_n (by omega), pu_n (by omega)]
    have ma0 : Ma 14 0 = nI d := by rw [hMa, pu_n (by omega), pu_n (by omega)]; exact h0
    have pc : PaC sh Ma R np pa := ⟨p1, by rw [ma 6 1 (by omega)]; exact p2, p3, p4⟩
    have dyn : ∀ i j, i < np → Ma (pa i) j = M (pa i) j := fun i j hi => ma _ _ (by have := (p3 i hi).2.2; omega)
    obtain ⟨Mb, b1, b2, b3⟩ := c_tear (d := d) (nd := nd) pc hnd (by rw [ma 14 8 (by omega)]; exact h8) ma0 (fun k hk => by rw [ma 16 k (by omega)]; exact hD k hk)
    have lob : ∀ c j, c < 220 → Mb c j = Ma c j := fun c j hc => b2 c j (fun ⟨_, i, hi, z⟩ => by have := (p3 i hi).2.2; omega)
    have pb : PaC sh Mb R np pa := ⟨p1, by rw [lob 6 1 (by omega), ma 6 1 (by omega)]; exact p2, p3, p4⟩
    obtain ⟨Mc, c1, c2, c3, c4⟩ := c_lives (d := d) (r := r1) pb (by omega) rb (by rw [lob 14 0 (by omega)]; exact ma0) (by rw [lob 14 1 (by omega), hMa]; exact px_u_in _ _ _ _) (fun i hi => by rw [b2 _ 6 (by omega), dyn i 6 hi]; exact h6 i hi) (nI s) (nI k')
    have loc : ∀ c j, c < 220 → Mc c j = Ma c j := fun c j hc => by
      rw [c2 c j (fun i hi z => by have := (p3 i hi).2.2; omega)]; exact lob c j hc
    obtain ⟨Md, d1, d2, d3, d4, d5, d6⟩ := c_note (Mx := Mc) hd (by rw [loc 14 0 (by omega)]; exact ma0) (nI k') (nI s)
    have d14 : ∀ j, Md 14 j = Ma 14 j := fun j => by rw [d2 14 j (by omega), loc 14 j (by omega)]
    have ma1 : Ma 14 1 = nI r1 := by rw [hMa]; exact px_u_in _ _ _ _
    have ma2 : Ma 14 2 = nI ((a + trn r) % 72) := by rw [hMa, pu_n (by omega)]; exact px_u_in _ _ _ _
    refine ⟨px_u Md 14 0 (nI (d + 1)), ?_, ⟨px_u_in _ _ _ _, ?_, ?_⟩, ⟨?_, ?_, ?_, ?_⟩, fun i hi => ?_, fun c j q1 q2 q3 => ?_⟩
    · unfold f_X9_flyDay_55
      rw [h1, e_turn hr, bd1_e, h2, nI_add, show (72 : Int32) = nI 72 from rfl, pk_rem (by omega) (by decide) (by decide), nm_u, nm_u, pu_n (show ¬ ((14 : Nat) = 14 ∧ (1 : Nat) = 2) by omega), h1, x1, bd1_e, nm_u, ← hMa, b1, bd1_e, c1, bd1_e, d1, bd1_e, d14 0, ma0, nI_1, nm_u, nm_u]
    · rw [pu_n (by omega), d14 1]; exact ma1
    · rw [pu_n (by omega), d14 2]; exact ma2
    · rw [pu_n (by omega)]; exact d3
    · rw [pu_n (by omega), d4, loc 14 1 (by omega)]; exact ma1
    · rw [pu_n (by omega), d5, loc 14 2 (by omega)]; exact ma2
    · rw [pu_n (by omega)]; exact d6
    · have hi2 := (p3 i hi).2.2
      have fin : ∀ j, (px_u Md 14 0 (nI (d + 1))) (pa i) j = Mc (pa i) j := fun j => by rw [pu_n (by omega), d2 _ _ (by omega)]
      have mid : ∀ j, j ≠ 5 → Mb (pa i) j = M (pa i) j := fun j hj => by rw [b2 _ _ (by omega), dyn i j hi]
      have hv := c4 i hi
      rw [mid 3 (by omega), mid 4 (by omega), mid 6 (by omega), mid 7 (by omega)] at hv
      rw [fin 3, fin 4, fin 5, fin 6, fin 7]
      have e16 : Ma 16 = M 16 := funext fun j => ma 16 j (by omega)
      have e17 : Ma 17 = M 17 := funext fun j => ma 17 j (by omega)
      obtain ⟨t1, t2⟩ := b3 i hi
      rw [e16, e17, dyn i 5 hi] at t2
      rw [e16, e17] at t1
      exact ⟨Mb (pa i) 5, t1, t2, hv⟩
    · rw [pu_n (by omega), d2 c j (by omega)]
      by_cases e : ∃ i, i < np ∧ c = pa i
      · obtain ⟨i, hi, rfl⟩ := e
        have hj : ¬ (3 ≤ j ∧ j ≤ 7) := fun z => q3 ⟨z.1, z.2, i, hi, rfl⟩
        rw [c3 _ j (by omega), b2 _ j (by omega)]; exact ma _ _ q1
      · rw [c2 c j (fun i hi z => e ⟨i, hi, z⟩), b2 c j (fun z => e z.2)]; exact ma _ _ q1
  obtain ⟨x, x1, x2⟩ := e_rho (r := r) (s := s) (k := k) hr hs hk
  unfold f_X9_flyDay_30
  rw [h1, x1, bd1_e, e_within, bd1_e]
  unfold stK
  rcases x2 with ⟨q, q1, q2, q3⟩ | ⟨q1, q2⟩
  · rw [bI_t (show 0 ≤ x ∧ x ≤ 255 by rw [q3]; exact ⟨nI_pos' (by omega), nI_le (b := 255) q2 (by decide)⟩), if_neg (show ¬ (1 : Int32) = 0 by decide), if_neg (by rw [q1]; simp)]
    exact main k hk (by unfold rho'; rw [q1]; rfl)
  · rw [bI_f q2, if_pos (show (0 : Int32) = 0 from rfl), if_pos q1]
    exact main 1 (by decide) (by unfold rho'; rw [q1]; rfl)
end DAY
