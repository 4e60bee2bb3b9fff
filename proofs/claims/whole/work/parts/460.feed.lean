/-! the tape -/
def TapeI (M : px_M) : Prop := ∃ t, t ≤ 300 ∧ M 20 1 = nI t ∧ M 73 35 = nI t ∧ ∀ i, i < t → M 21 i = M 177 i ∧ ∃ b, b < 256 ∧ M 177 i = nI b
theorem TapeI.fr {sh : px_Sh} {M M' : px_M} (h : TapeI M) (hM : sm_ sh 4 M M') : TapeI M' := by
  obtain ⟨t, h1, h2, h3, h4⟩ := h
  refine ⟨t, h1, by rw [hM 20 1 rfl]; exact h2, by rw [hM 73 35 rfl]; exact h3, fun i hi => ?_⟩
  rw [hM 21 i rfl, hM 177 i rfl]; exact h4 i hi
def btv (p : Int32) (s : Nat) : Int32 := (p >>> (nI (24 - 8 * s) &&& 31)) &&& 255
theorem btv_r (p : Int32) (s : Nat) : ∃ b, b < 256 ∧ btv p s = nI b := pk_andE _ (m := 255) 8 (by decide)
theorem c_addNumber {M : px_M} {t : Nat} (ht : t + 4 ≤ 300) (h : M 20 1 = nI t) (p : Int32) : ∃ M', f_X6_addNumber M p = some M' ∧ M' 20 1 = nI (t + 4) ∧ (∀ s, s < 4 → M' 21 (t + s) = btv p s) ∧ ∀ c j, ¬ (c = 20 ∧ j = 1) → ¬ (c = 21 ∧ t ≤ j ∧ j < t + 4) → M' c j = M c j := by
  have K := lpf_for (body := fun a : Int32 × px_M => f_X6_addNumber_3 a.2 p a.1) (fun s (M' : px_M) => (if s = 4 then -8 else nI (24 - 8 * s), M')) (fun s M' => px_u (px_u M' 21 (t + s) (btv p s)) 20 1 (nI (t + s + 1)))
    (fun k M' => M' 20 1 = nI (t + k) ∧ (∀ s, s < k → M' 21 (t + s) = btv p s) ∧ ∀ c j, ¬ (c = 20 ∧ j = 1) → ¬ (c = 21 ∧ t ≤ j ∧ j < t + 4) → M' c j = M c j) (fun M' => M') 4
    (fun s M' hs hP => by
      obtain ⟨p1, p2, p3⟩ := hP
      refine ⟨?_, ?_, fun u hu => ?_, fun c j q1 q2 => ?_⟩
      · show f_X6_addNumber_3 M' p (if s = 4 then -8 else nI (24 - 8 * s)) = some (.inl (if s + 1 = 4 then -8 else nI (24 - 8 * (s + 1)), _))
        rw [if_neg (by omega)]
        unfold f_X6_addNumber_3
        have e1 : (px_u M' 21 (t + s) (btv p s)) 20 1 = nI (t + s) := by rw [pu_n (by omega)]; exact p1
        have e2 : nI (24 - 8 * s) + -8 = if s + 1 = 4 then -8 else nI (24 - 8 * (s + 1)) := by
          obtain rfl | rfl | rfl | rfl : s = 0 ∨ s = 1 ∨ s = 2 ∨ s = 3 := by omega
          all_goals decide
        simp only [if_neg (nI_pos (n := 24 - 8 * s) (by omega)), p1, if_neg (show ¬ 300 ≤ nI (t + s) from nI_ge (b := 300) (by omega) (by decide)), nm_u, ok_t (ix_k (show t + s < 300 by omega) (by decide : 300 < 2 ^ 31)), nI_clamp (show t + s < 2 ^ 31 by omega)]
        rw [show (p >>> (nI (24 - 8 * s) &&& 31)) &&& 255 = btv p s from rfl, e1, nI_1, e2]
      · exact px_u_in _ _ _ _
      · rw [pu_n (by omega)]
        by_cases e : u = s
        · subst e; exact px_u_in _ _ _ _
        · rw [pu_n (by omega)]; exact p2 u (by omega)
      · rw [pu_n (by omega), pu_n (by omega)]; exact p3 c j q1 q2)
    (fun M' _ => by
      show f_X6_addNumber_3 M' p (if 4 = 4 then -8 else nI (24 - 8 * 4)) = _
      unfold f_X6_addNumber_3
      rw [if_pos rfl, if_pos (by decide)]) 4 0 M rfl ⟨h, fun s hs => absurd hs (by omega), fun _ _ _ _ => rfl⟩
  refine ⟨_, ?_, K.2⟩
  unfold f_X6_addNumber
  rw [show ((24, M) : Int32 × px_M) = ((fun s (M' : px_M) => (if s = 4 then -8 else nI (24 - 8 * s), M')) 0 M) from rfl, K.1]
  rfl
def p5 (p1 p2 p3 p4 p5 : Int32) (k : Nat) : Int32 := if k < 4 then p1 else if k < 8 then p2 else if k < 12 then p3 else if k < 16 then p4 else p5
theorem m_feed {M : px_M} {t : Nat} (ht : t + 20 ≤ 300) (h : M 73 35 = nI t) (q1 q2 q3 q4 q5 : Int32) : ∃ M', lpf (fun a : Int32 × px_M => f_X12_feed_23 a.2 q1 q2 q3 q4 q5 a.1) (0, M) = some M' ∧ M' 73 35 = nI (t + 20) ∧ (∀ k, k < 20 → M' 177 (t + k) = btv (p5 q1 q2 q3 q4 q5 k) (k % 4)) ∧ ∀ c j, ¬ (c = 73 ∧ j = 35) → ¬ (c = 177 ∧ t ≤ j ∧ j < t + 20) → M' c j = M c j := by
  have K := lpf_for (body := fun a : Int32 × px_M => f_X12_feed_23 a.2 q1 q2 q3 q4 q5 a.1) (fun s (M' : px_M) => (nI s, M')) (fun s M' => px_u (px_u M' 177 (t + s) (btv (p5 q1 q2 q3 q4 q5 s) (s % 4))) 73 35 (nI (t + s + 1)))
    (fun k M' => M' 73 35 = nI (t + k) ∧ (∀ s, s < k → M' 177 (t + s) = btv (p5 q1 q2 q3 q4 q5 s) (s % 4)) ∧ ∀ c j, ¬ (c = 73 ∧ j = 35) → ¬ (c = 177 ∧ t ≤ j ∧ j < t + 20) → M' c j = M c j) (fun M' => M') 20
    (fun s M' hs hP => by
      obtain ⟨p1, p2, p3⟩ := hP
      refine ⟨?_, ?_, fun u hu => ?_, fun c j q1 q2 => ?_⟩
      · show f_X12_feed_23 M' q1 q2 q3 q4 q5 (nI s) = _
        have h76 : ∀ z, f_X12_feed_76 M' q1 q2 q3 q4 q5 (nI s) z = some (.inl (nI (s + 1), px_u (px_u M' 177 (t + s) (btv z (s % 4))) 73 35 (nI (t + s + 1)))) := by
          intro z
          unfold f_X12_feed_76
          have e2 : 24 - 8 * (nI s - nI s / 4 * 4) = nI (24 - 8 * (s % 4)) := by
            rw [show (4 : Int32) = nI 4 from rfl, pk_rem (by omega) (by decide) (by decide), show (8 : Int32) = nI 8 from rfl, pk_mul, show (24 : Int32) = nI 24 from rfl, pk_sub (by omega)]
          have e1 : (px_u M' 177 (t + s) (btv z (s % 4))) 73 35 = nI (t + s) := by rw [pu_n (by omega)]; exact p1
          simp only [nm_u, p1, ok_t (ix_k (show t + s < 300 by omega) (by decide : 300 < 2 ^ 31)), nI_clamp (show t + s < 2 ^ 31 by omega), e2]
          rw [show (z >>> (nI (24 - 8 * (s % 4)) &&& 31)) &&& 255 = btv z (s % 4) from rfl, e1, nI_1, nI_1]
        unfold f_X12_feed_23 p5
        rw [if_neg (show ¬ 20 ≤ nI s from nI_ge (b := 20) hs (by decide))]
        simp only [h76]
        by_cases a1 : s < 4
        · rw [if_neg (show ¬ 4 ≤ nI s from nI_ge (b := 4) a1 (by decide)), if_pos a1]
        · rw [if_pos (show 4 ≤ nI s from nI_le (a := 4) (by omega) (by omega)), if_neg a1]
          by_cases a2 : s < 8
          · rw [if_neg (show ¬ 8 ≤ nI s from nI_ge (b := 8) a2 (by decide)), if_pos a2]
          · rw [if_pos (show 8 ≤ nI s from nI_le (a := 8) (by omega) (by omega)), if_neg a2]
            by_cases a3 : s < 12
            · rw [if_neg (show ¬ 12 ≤ nI s from nI_ge (b := 12) a3 (by decide)), if_pos a3]
            · rw [if_pos (show 12 ≤ nI s from nI_le (a := 12) (by omega) (by omega)), if_neg a3]
              by_cases a4 : s < 16
              · rw [if_neg (show ¬ 16 ≤ nI s from nI_ge (b := 16) a4 (by decide)), if_pos a4]
              · rw [if_pos (show 16 ≤ nI s from nI_le (a := 16) (by omega) (by omega)), if_neg a4]
      · exact px_u_in _ _ _ _
      · rw [pu_n (by omega)]
        by_cases e : u = s
        · subst e; exact px_u_in _ _ _ _
        · rw [pu_n (by omega)]; exact p2 u (by omega)
      · rw [pu_n (by omega), pu_n (by omega)]; exact p3 c j q1 q2)
    (fun M' _ => by
      show f_X12_feed_23 M' q1 q2 q3 q4 q5 (nI 20) = _
      unfold f_X12_feed_23
      rw [if_pos (by decide)]) 20 0 M rfl ⟨h, fun s hs => absurd hs (by omega), fun _ _ _ _ => rfl⟩
  exact ⟨_, K.1, K.2⟩
theorem p_feed {sh : px_Sh} {M : px_M} (hI : TapeI M) (q1 q2 q3 q4 q5 : Int32) :
    ∃ r M1 M2, f_X11_feed M q1 q2 q3 q4 q5 = some (r, M1) ∧ f_X12_feed M1 q1 q2 q3 q4 q5 = some (r, M2) ∧ M2 73 0 = 0 ∧ kp sh [4] M M2 ∧ TapeI M2 ∧ ∀ c j, ¬ (c = 20 ∧ j = 1) → c ≠ 21 → c ≠ 177 → ¬ (c = 73 ∧ (j = 35 ∨ j = 0)) → M2 c j = M c j := by
  have hI' := hI
  obtain ⟨t, h1, h2, h3, h4⟩ := hI
  by_cases ht : t + 20 ≤ 300
  · obtain ⟨Ma, a1, a2, a3, a4⟩ := c_addNumber (M := M) (t := t) (by omega) h2 q1
    obtain ⟨Mb, b1, b2, b3, b4⟩ := c_addNumber (M := Ma) (t := t + 4) (by omega) a2 q2
    obtain ⟨Mc, c1, c2, c3, c4⟩ := c_addNumber (M := Mb) (t := t + 4 + 4) (by omega) b2 q3
    obtain ⟨Md, d1, d2, d3, d4⟩ := c_addNumber (M := Mc) (t := t + 4 + 4 + 4) (by omega) c2 q4
    obtain ⟨Me, e1, e2, e3, e4⟩ := c_addNumber (M := Md) (t := t + 4 + 4 + 4 + 4) (by omega) d2 q5
    have hf : ∀ c j, ¬ (c = 20 ∧ j = 1) → ¬ (c = 21 ∧ t ≤ j ∧ j < t + 20) → Me c j = M c j := by
      intro c j x1 x2
      rw [e4 c j x1 (by omega), d4 c j x1 (by omega), c4 c j x1 (by omega), b4 c j x1 (by omega), a4 c j x1 (by omega)]
    have hv : ∀ k, k < 20 → Me 21 (t + k) = btv (p5 q1 q2 q3 q4 q5 k) (k % 4) := by
      intro k hk
      unfold p5
      by_cases x1 : k < 4
      · rw [if_pos x1, e4 _ _ (by omega) (by omega), d4 _ _ (by omega) (by omega), c4 _ _ (by omega) (by omega), b4 _ _ (by omega) (by omega), a3 k x1, Nat.mod_eq_of_lt x1]
      · rw [if_neg x1]
        by_cases x2 : k < 8
        · rw [if_pos x2, e4 _ _ (by omega) (by omega), d4 _ _ (by omega) (by omega), c4 _ _ (by omega) (by omega), show t + k = t + 4 + (k - 4) by omega, b3 (k - 4) (by omega), show k % 4 = k - 4 by omega]
        · rw [if_neg x2]
          by_cases x3 : k < 12
          · rw [if_pos x3, e4 _ _ (by omega) (by omega), d4 _ _ (by omega) (by omega), show t + k = t + 4 + 4 + (k - 8) by omega, c3 (k - 8) (by omega), show k % 4 = k - 8 by omega]
          · rw [if_neg x3]
            by_cases x4 : k < 16
            · rw [if_pos x4, e4 _ _ (by omega) (by omega), show t + k = t + 4 + 4 + 4 + (k - 12) by omega, d3 (k - 12) (by omega), show k % 4 = k - 12 by omega]
            · rw [if_neg x4, show t + k = t + 4 + 4 + 4 + 4 + (k - 16) by omega, e3 (k - 16) (by omega), show k % 4 = k - 16 by omega]
    obtain ⟨M2, m1, m2, m3, m4⟩ := m_feed (M := px_u Me 73 0 0) (t := t) ht (by rw [pu_n (by omega), hf 73 35 (by omega) (by omega)]; exact h3) q1 q2 q3 q4 q5
    have hg : ∀ c j, ¬ (c = 20 ∧ j = 1) → ¬ (c = 21 ∧ t ≤ j ∧ j < t + 20) → ¬ (c = 177 ∧ t ≤ j ∧ j < t + 20) → ¬ (c = 73 ∧ (j = 35 ∨ j = 0)) → M2 c j = M c j := by
      intro c j x1 x2 x3 x4
      rw [m4 c j (by omega) x3, pu_n (by omega), hf c j x1 x2]
    refine ⟨nI (t + 20), Me, M2, ?_, ?_, ?_, ?_, ?_, fun c j x1 x2 x3 x4 => hg c j x1 (by omega) (by omega) x4⟩
    · unfold f_X11_feed f_X6_hasRoom f_X6_hasRoom_18
      rw [h2, show (20 : Int32) = nI 20 from rfl, nI_add, if_neg (show ¬ 300 < nI (t + 20) from nI_nlt (a := 300) ht (by decide)), ok_t zb1, bd1_e, if_neg (by decide), a1, bd1_e, b1, bd1_e, c1, bd1_e, d1, bd1_e, e1, bd1_e, e2]
    · have e35 : (px_u Me 73 0 0) 73 35 = nI t := by rw [pu_n (by omega), hf 73 35 (by omega) (by omega)]; exact h3
      unfold f_X12_feed
      rw [nm_u, e35, show (20 : Int32) = nI 20 from rfl, nI_add, if_pos (show nI (t + 20) ≤ 300 from nI_le (b := 300) ht (by decide)), m1, bd1_e, m2]
    · rw [m4 73 0 (by omega) (by omega)]; exact px_u_in _ _ _ _
    · intro c j hn
      refine hg c j ?_ ?_ ?_ ?_
      · rintro ⟨rfl, rfl⟩; exact hn (List.mem_cons_of_mem _ List.mem_cons_self)
      · rintro ⟨rfl, -⟩; exact hn (List.mem_cons_of_mem _ List.mem_cons_self)
      · rintro ⟨rfl, -⟩; exact hn (List.mem_cons_of_mem _ List.mem_cons_self)
      · rintro ⟨rfl, rfl | rfl⟩
        · exact hn (List.mem_cons_of_mem _ List.mem_cons_self)
        · exact hn List.mem_cons_self
    · refine ⟨t + 20, ht, ?_, m2, fun i hi => ?_⟩
      · rw [m4 20 1 (by omega) (by omega), pu_n (by omega), e2]
      · by_cases x : i < t
        · rw [hg 21 i (by omega) (by omega) (by omega) (by omega), hg 177 i (by omega) (by omega) (by omega) (by omega)]
          exact h4 i x
        · have b1 := hv (i - t) (by omega)
          have b2 := m3 (i - t) (by omega)
          rw [show t + (i - t) = i by omega] at b1 b2
          rw [m4 21 i (by omega) (by omega), pu_n (by omega), b1, b2]
          exact ⟨rfl, btv_r _ _⟩
  · refine ⟨-1, M, px_u M 73 0 0, ?_, ?_, px_u_in _ _ _ _, px_0_kp _ _, hI'.fr (sh := sh) (sm_u0 (by decide) 0), fun c j _ _ _ x => pu_n (by omega)⟩
    · unfold f_X11_feed f_X6_hasRoom f_X6_hasRoom_18
      rw [h2, show (20 : Int32) = nI 20 from rfl, nI_add, if_pos (show 300 < nI (t + 20) from nI_lt (a := 300) (by omega) (by omega)), ok_t zb0, bd1_e, if_pos rfl]
    · have e35 : (px_u M 73 0 0) 73 35 = nI t := h3
      unfold f_X12_feed
      rw [nm_u, e35, show (20 : Int32) = nI 20 from rfl, nI_add, if_neg (show ¬ nI (t + 20) ≤ 300 from nI_ge (a := 300) (by omega) (by omega))]
theorem p_fault {M : px_M} (h : M 20 9 = M 73 38) : ∃ r, f_X11_fault M = some r ∧ f_X12_fault M = some (r, px_u M 73 0 0) := ⟨M 20 9, rfl, by unfold f_X12_fault; rw [nm_u, h]; rfl⟩
