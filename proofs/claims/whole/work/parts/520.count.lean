/-! what is counted -/
section COUNT
variable {sh : px_Sh} {M : px_M} {L : px_L} {R : px_R} {nw d r a nd np nf : Nat} {wa ch ly pa fp : Nat → Nat}
theorem c_met {wr r h : Nat} (ws s : Nat) (hr : r ≤ 255) (hwr : wr ≤ 255) (hh : h < 72) : ∃ z, f_X1_isMet (nI r - nI wr) (nI h) = some z ∧ (z = 0 ↔ ¬ Dd wr ws s 0 r h) ∧ zb z = true := by
  have key : Dd wr ws s 0 r h ↔ (wr ≤ r + 4 ∧ r ≤ wr + 4) ∧ (h ≤ 2 ∨ 70 ≤ h) := Iff.rfl
  rw [key]
  unfold f_X1_isMet f_X1_isMet_11 f_X1_isMet_16 f_X1_isMet_33 f_X1_isMet_34
  rw [e_abs, am_sub (by omega) (by omega), bd1_e, ok_t zb0, ok_t zb1]
  obtain ⟨u, hu⟩ : ∃ u, u = (if wr ≤ r then r - wr else wr - r) := ⟨_, rfl⟩
  rw [← hu]
  have u1 : u < 1000 := by rw [hu]; split <;> omega
  have u2 : u ≤ 4 ↔ (wr ≤ r + 4 ∧ r ≤ wr + 4) := by rw [hu]; split <;> omega
  rw [← u2]
  rw [show (2 : Int32) = nI 2 from rfl, show (70 : Int32) = nI 70 from rfl, show (4 : Int32) = nI 4 from rfl, ifi (nI_leI (by omega) (by omega)), ifi (nI_ltI (by omega) (by omega)), ifi (nI_ltI (by omega) (by omega))]
  rw [if_neg (show ¬ (1 : Int32) = 0 by decide), if_pos (show (0 : Int32) = 0 from rfl)]
  by_cases q1 : 4 < u
  · refine ⟨0, ?_, by simp; omega, zb0⟩
    rw [if_pos q1]; simp
  · rw [if_neg q1]
    by_cases q2 : h ≤ 2
    · exact ⟨1, by rw [if_pos q2], by simp; omega, zb1⟩
    · by_cases q3 : h < 70
      · exact ⟨0, by rw [if_neg q2, if_pos q3], by simp; omega, zb0⟩
      · exact ⟨1, by rw [if_neg q2, if_neg q3], by simp; omega, zb1⟩
/-- the goal is met, for both -/
theorem p_met (hI : WI sh M L R nw wa ch ly) (hV : VI M nw d r a nd) {M' : px_M} (hM : ∀ c j, c < 220 → ¬ (c = 73 ∧ j = 0) → M' c j = M c j) : ∃ z, zb z = true ∧ f_X9_isGoalMet sh M R = some z ∧ ((M' 73 28 = -1 ∧ z = 0) ∨ ∃ y, ¬ M' 73 28 = -1 ∧ f_X12_isMet M' (M' 73 28) (M' 73 25) (M' 73 26) (M' 73 24) = some y ∧ (y = 0 ↔ z = 0)) := by
  obtain ⟨h1, h2, h3, h4, h5⟩ := hI
  obtain ⟨v1, v2, v3, -, -⟩ := hV
  have hm : ∀ j, 1 ≤ j → M' 73 j = M 73 j := fun j hj => hM 73 j (by omega) (by omega)
  unfold f_X9_isGoalMet f_X9_hasWorld
  rw [hm 28 (by omega), hm 25 (by omega), hm 26 (by omega), hm 24 (by omega), ← v3.1, v2.2.2.2.1, v2.2.2.2.2.2.1, v2.2.2.2.2.2.2.2.1, h2.1]
  rcases v3.2 with e | ⟨g, hg, e⟩
  · rw [e]
    refine ⟨0, zb0, ?_, Or.inl ⟨rfl, rfl⟩⟩
    rw [e_within, bI_f (fun z => absurd z.1 (by decide)), bd1_e, ok_t zb0, bd1_e, if_pos rfl]
  · rw [e]
    obtain ⟨⟨k1, k2, k3⟩, k4, wr, an, ws, k5, k6, -⟩ := h3 g hg
    have hm2 : ws * d ≤ 10 * 2020 := Nat.mul_le_mul k5.2.2 (by omega)
    obtain ⟨a1, a2⟩ := hA_h0 (an := an) (ws := ws) (r := r) (d := d) v1.2.2.2.1
    obtain ⟨y, y1, y2⟩ := e_met (M := M') (w := g) (wr := wr) (an := an) (ws := ws) (D := d) (t := 0) (p := 72 * r + a) 0 (by omega) k5 (by rw [hM 90 g (by omega) (by omega), hM 91 g (by omega) (by omega), hM 92 g (by omega) (by omega)]; exact k6) (by omega) (by omega) (by omega)
    have hh : hq an ws r a d 0 < 72 := Nat.mod_lt _ (by decide)
    obtain ⟨z, z1, z2, z3⟩ := c_met (wr := wr) (r := r) ws 0 (by omega) k5.1 hh
    have ea : f_X10_aheadOn sh M (wa g) (nI d) (nI a) = some (nI (hq an ws r a d 0)) := by
      unfold f_X10_aheadOn f_X10_angleOn hq
      rw [ok_t (hk_t k2), ok_t (hk_t k2), ok_t (hk_t k2), k4.2.1, k4.2.2, k6.2.1, k6.2.2, pk_mul ws, nI_add an, show (72 : Int32) = nI 72 from rfl, pk_rem (by omega) (by decide) (by decide), bd1_e]
      show bd1 (f_J9_floorMod_7cf53 (nI a - nI ((an + ws * d) % 72)) 72) _ = _
      rw [e_fm (by omega) (by omega), bd1_e, Nat.zero_mul, Nat.add_zero]
      rfl
    refine ⟨z, z3, ?_, Or.inr ⟨y, nI_ne1 (by omega), ?_, ?_⟩⟩
    · rcases rng (nI g) (k := nw) (by omega) with ⟨g', hg', e', w1, w2⟩ | ⟨zz, -, -⟩
      · rw [w1, bd1_e, ok_t zb1, bd1_e, if_neg (by decide), nm_u, ok_t (ix_k (show g < 4 by omega) (by decide)), nI_clamp (show g < 2 ^ 31 by omega), k1, bd1_e, ok_t (hk_t k2), ok_t (hk_t k2), v2.2.2.1, v2.2.2.2.2.2.2.1, ea, bd1_e, v2.2.2.2.2.1, k4.1, k6.1, z1, bd1_e, ok_t z3]
      · exact absurd rfl (zz g hg)
    · have e1 : nI (72 * r + a) / 72 = nI r := by rw [show (72 : Int32) = nI 72 from rfl, pk_div (by omega) (by decide) (by decide), a1]
      have e2 : nI (72 * r + a) - nI (72 * r + a) / 72 * 72 = nI a := by
        rw [show (72 : Int32) = nI 72 from rfl, pk_rem (by omega) (by decide) (by decide)]
        congr 1; omega
      rw [e2, e1, nI_add, Nat.add_zero] at y1
      exact y1
    · rw [y2, z2]
      unfold Gd
      rw [a1, a2]
/-- how many creases are open, as the reference counts them -/
theorem m_opens {n u o : Nat} {row : List Nat} (hF : FoldI M n u o row) {M' : px_M} (hM : ∀ c j, c < 220 → ¬ (c = 73 ∧ j = 0) → M' c j = M c j) (p1 : Int32) : ∃ x, lpf (fun a : Int32 × Int32 => f_X12_count_9 M' p1 a.1 a.2) (0, 0) = some x ∧ f_J6_bitCount_0f7a4 (M 1 2) = some x := by
  obtain ⟨f1, f2, f3, f4, f5, f6⟩ := hF
  have e1 : M' 73 1 = nI n := by rw [hM 73 1 (by omega) (by omega)]; exact f3.2.1
  rw [f3.2.2.2.2]
  rcases f1 with rfl | ⟨n2, n8⟩
  · obtain rfl : o = 0 := by have := f2.2; simp at this; omega
    refine ⟨0, lpf_end ?_, by decide⟩
    show f_X12_count_9 M' p1 0 0 = _
    unfold f_X12_count_9
    rw [e1, if_pos (by decide)]
  · refine ⟨nI (n - 1 - shm o (n - 1)), ?_, bc_of n2 n8 f2.2⟩
    have loop : ∀ m i, i + m = n - 1 → lpf (fun a : Int32 × Int32 => f_X12_count_9 M' p1 a.1 a.2) (nI (i - shm o i), nI i) = some (nI (n - 1 - shm o (n - 1))) := by
      intro m
      induction m with
      | zero =>
        intro i hi
        obtain rfl : i = n - 1 := by omega
        apply lpf_end
        show f_X12_count_9 M' p1 _ (nI (n - 1)) = _
        unfold f_X12_count_9
        rw [e1, nI_1, if_pos (nI_le (by omega) (by omega))]
      | succ m ih =>
        intro i hi
        have sl := shm_le o i
        have hb : f_X12_count_9 M' p1 (nI (i - shm o i)) (nI i) = some (.inl (nI (i + 1 - shm o (i + 1)), nI (i + 1))) := by
          unfold f_X12_count_9 f_X12_count_34
          rw [e1, nI_1, if_neg (nI_ge (by omega) (by omega)), ok_t (ix_k (show i < 8 by omega) (by decide)), nI_clamp (show i < 2 ^ 31 by omega), hM 78 i (by omega) (by omega), f6 i (by omega), nm_u, nm_u, show (1 : Int32) = nI 1 from rfl, show (0 : Int32) = nI 0 from rfl, nI_add, nI_add]
          have es : shm o (i + 1) = shm o i + if o.testBit i = true then 0 else 1 := rfl
          rw [es]
          cases ht : o.testBit i with
          | true =>
            rw [if_neg (show ¬ b2 true = nI 0 by decide), if_pos rfl, show i - shm o i + 1 = i + 1 - (shm o i + 0) by omega]
          | false =>
            rw [if_pos (show b2 false = nI 0 by decide), if_neg (by decide), show i - shm o i + 0 = i + 1 - (shm o i + 1) by omega]
        rw [lpf_go (body := fun a : Int32 × Int32 => f_X12_count_9 M' p1 a.1 a.2) (a := (nI (i - shm o i), nI i)) hb]
        exact ih (i + 1) (by omega)
    exact loop (n - 1) 0 (by omega)
theorem p_count (hI : WI sh M L R nw wa ch ly) (hV : VI M nw d r a nd) (hA : SailI sh M R np nf pa fp) (hF : Ifold M) (h6 : M 6 1 = M 73 9 ∧ M 6 3 = M 73 10) (hT : M 20 1 = M 73 35) (hH : M 27 2 = M 73 48 ∧ M 27 6 = M 73 49) (hN : M 40 5 = M 73 57 ∧ M 40 8 = M 73 58) (hK : M 61 4 = M 73 59) {b : Nat} (hR : R 0 7 = some b ∧ hk sh b 7 = true ∧ M b 5 = M 73 36) (p1 : Int32) :
    ∃ q, f_X11_count sh M R p1 = some q ∧ f_X12_count M p1 = some (q, px_u M 73 0 0) := by
  obtain ⟨n, u, o, row, hF⟩ := hF
  have hM : ∀ c j, c < 220 → ¬ (c = 73 ∧ j = 0) → (px_u M 73 0 0) c j = M c j := fun c j _ hc => pu_n hc
  have hm : ∀ j, 1 ≤ j → (px_u M 73 0 0) 73 j = M 73 j := fun j hj => pu_n (by omega)
  obtain ⟨x, x1, x2⟩ := m_opens hF hM p1
  obtain ⟨z, z0, z1, z2⟩ := p_met hI hV hM
  have sm : sm_ sh 2 M (px_u M 73 0 0) := fun c j hc => pu_n (fun z => by rw [z.1, z.2] at hc; cases hc)
  obtain ⟨v1, v2, -, -, -⟩ := hV
  obtain ⟨s, hs, hv⟩ := cl20_r (sY M pa np 3 / 100)
  have hv : vStr M pa np = nI s := hv
  unfold f_X11_count f_X12_count
  rw [nm_u, x1, bd1_e]
  simp only [hm _ (show 1 ≤ 24 by omega), hm _ (show 1 ≤ 25 by omega), hm _ (show 1 ≤ 26 by omega), hm _ (show 1 ≤ 9 by omega), hm _ (show 1 ≤ 10 by omega), hm _ (show 1 ≤ 27 by omega), hm _ (show 1 ≤ 36 by omega), hm _ (show 1 ≤ 35 by omega), hm _ (show 1 ≤ 48 by omega), hm _ (show 1 ≤ 49 by omega), hm _ (show 1 ≤ 41 by omega), hm _ (show 1 ≤ 57 by omega), hm _ (show 1 ≤ 58 by omega), hm _ (show 1 ≤ 59 by omega)]
  by_cases q0 : p1 = 0
  · rw [if_pos q0, if_pos q0]; exact ⟨_, rfl, by rw [v2.2.2.1, v2.2.2.2.1]⟩
  rw [if_neg q0, if_neg q0]
  by_cases q1 : p1 = 1
  · rw [if_pos q1, if_pos q1]; exact ⟨_, rfl, by rw [v2.2.2.2.2.1, v2.2.2.2.2.2.1]⟩
  rw [if_neg q1, if_neg q1]
  by_cases q2 : p1 = 2
  · rw [if_pos q2, if_pos q2]; exact ⟨_, rfl, by rw [v2.2.2.2.2.2.2.1, v2.2.2.2.2.2.2.2.1]⟩
  rw [if_neg q2, if_neg q2]
  by_cases q3 : p1 = 3
  · rw [if_pos q3, if_pos q3]; exact ⟨_, rfl, by rw [h6.1]⟩
  rw [if_neg q3, if_neg q3]
  by_cases q4 : p1 = 4
  · rw [if_pos q4, if_pos q4]; exact ⟨_, rfl, by rw [h6.2]⟩
  rw [if_neg q4, if_neg q4]
  by_cases q5 : p1 = 5
  · rw [if_pos q5, if_pos q5]; exact ⟨_, rfl, by rw [v2.1, v2.2.1]⟩
  rw [if_neg q5, if_neg q5]
  by_cases q6 : p1 = 6
  · rw [if_pos q6, if_pos q6, hR.1, bd1_e, ok_t hR.2.1]; exact ⟨_, rfl, by rw [hR.2.2]⟩
  rw [if_neg q6, if_neg q6]
  by_cases q7 : p1 = 7
  · rw [if_pos q7, if_pos q7, c_strength hA, m_strength hA sm, bd1_e, bd1_e]; exact ⟨_, rfl, rfl⟩
  rw [if_neg q7, if_neg q7]
  by_cases q8 : p1 = 8
  · rw [if_pos q8, if_pos q8, c_strength hA, m_strength hA sm, bd1_e, bd1_e, hv, v2.2.2.2.2.1, v2.2.2.2.2.2.1, e_step v1.2.2.1 hs, e_step2 v1.2.2.1 hs, bd1_e, bd1_e]; exact ⟨_, rfl, rfl⟩
  rw [if_neg q8, if_neg q8]
  by_cases q9 : p1 = 9
  · rw [if_pos q9, if_pos q9]; exact ⟨_, rfl, by rw [hT]⟩
  rw [if_neg q9, if_neg q9]
  by_cases q10 : p1 = 10
  · rw [if_pos q10, if_pos q10, z1, bd1_e]
    unfold f_X11_count_193 f_X12_count_220 f_X12_count_221
    rw [hm 28 (by omega), hm 25 (by omega), hm 26 (by omega), hm 24 (by omega)] at z2
    rcases z2 with ⟨k1, k2⟩ | ⟨y, k1, k2, k3⟩
    · rw [if_pos k2, hm 28 (by omega), if_pos k1]; exact ⟨_, rfl, rfl⟩
    · rw [hm 28 (by omega), if_neg k1, k2, bd1_e]
      by_cases e : z = 0
      · rw [if_pos e, if_pos (k3.mpr e)]; exact ⟨_, rfl, rfl⟩
      · rw [if_neg e, if_neg (fun t => e (k3.mp t))]; exact ⟨_, rfl, rfl⟩
  rw [if_neg q10, if_neg q10]
  by_cases q11 : p1 = 11
  · rw [if_pos q11, if_pos q11]; exact ⟨_, rfl, by rw [hH.1]⟩
  rw [if_neg q11, if_neg q11]
  by_cases q12 : p1 = 12
  · rw [if_pos q12, if_pos q12]; exact ⟨_, rfl, by rw [hH.2]⟩
  rw [if_neg q12, if_neg q12]
  by_cases q13 : p1 = 13
  · rw [if_pos q13, if_pos q13]; exact ⟨_, rfl, by rw [v2.2.2.2.2.2.2.2.2.1, v2.2.2.2.2.2.2.2.2.2]⟩
  rw [if_neg q13, if_neg q13]
  by_cases q14 : p1 = 14
  · rw [if_pos q14, if_pos q14, x2, bd1_e]; exact ⟨_, rfl, rfl⟩
  rw [if_neg q14, if_neg q14]
  by_cases q15 : p1 = 15
  · rw [if_pos q15, if_pos q15]; exact ⟨_, rfl, by rw [hN.1]⟩
  rw [if_neg q15, if_neg q15]
  by_cases q16 : p1 = 16
  · rw [if_pos q16, if_pos q16]; exact ⟨_, rfl, by rw [hN.2]⟩
  rw [if_neg q16, if_neg q16]
  by_cases q17 : p1 = 17
  · rw [if_pos q17, if_pos q17]; exact ⟨_, rfl, by rw [hK]⟩
  rw [if_neg q17, if_neg q17]
  exact ⟨_, rfl, rfl⟩
end COUNT
