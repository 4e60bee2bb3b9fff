/-! the voyage: worlds, goal, dust, notes -/
def stp (s r : Nat) : Nat := 1 + s * 32 / (r + 32)
def trn (r : Nat) : Nat := 1 + 320 / (r + 32)
def nxt (s r k : Nat) : Option Nat := if k = 0 then (if stp s r ≤ r then some (r - stp s r) else none) else if k = 1 then some r else (if r + stp s r ≤ 255 then some (r + stp s r) else none)
/-- from rho r and the angle h ahead of the world it is met behind just d days -/
def Dd (wr ws s : Nat) : Nat → Nat → Nat → Prop
  | 0, r, h => (wr ≤ r + 4 ∧ r ≤ wr + 4) ∧ (h ≤ 2 ∨ 70 ≤ h)
  | d + 1, r, h => ∃ k, k < 3 ∧ ∃ r', nxt s r k = some r' ∧ Dd wr ws s d r' ((h + trn r + 72 - ws) % 72)
def LayOK (wr ws s d : Nat) (l : Nat → Int64) : Prop := ∀ r, r ≤ 255 → ∃ x y : Nat, (x < 2 ^ 36 ∧ y < 2 ^ 36) ∧ (l (512 * d + 2 * r) = lN x ∧ l (512 * d + 2 * r + 1) = lN y) ∧ (∀ h, h < 36 → (x.testBit h = true ↔ Dd wr ws s d r h)) ∧ ∀ h, h < 36 → (y.testBit h = true ↔ Dd wr ws s d r (h + 36))
def CL (wr ws : Nat) (st kn : Int32) (l : Nat → Int64) : Prop := LayOK wr ws 0 0 l ∧ (st = -1 ∨ ∃ s k, s ≤ 20 ∧ st = nI s ∧ kn = nI k ∧ 1 ≤ k ∧ k ≤ 41 ∧ ∀ d, d < k → LayOK wr ws s d l)
def WorI (sh : px_Sh) (M : px_M) (L : px_L) (R : px_R) (wa ch ly : Nat → Nat) (w : Nat) : Prop :=
  (R 15 w = some (wa w) ∧ sh (wa w) = some (10, 0) ∧ 220 ≤ wa w) ∧ (M (wa w) 0 = M 90 w ∧ M (wa w) 1 = M 91 w ∧ M (wa w) 2 = M 92 w) ∧
  ∃ wr an ws, (wr ≤ 255 ∧ an < 72 ∧ ws ≤ 10) ∧ (M 90 w = nI wr ∧ M 91 w = nI an ∧ M 92 w = nI ws) ∧
  (R (wa w) 3 = none ∨ (R (wa w) 3 = some (ch w) ∧ sh (ch w) = some (1, 0) ∧ 220 ≤ ch w) ∧ (R (ch w) 3 = some (ly w) ∧ sh (ly w) = some (14, 20992) ∧ 220 ≤ ly w) ∧ M (ch w) 0 = nI ws ∧ CL wr ws (M (ch w) 1) (M (ch w) 2) (L (ly w)))
def WI (sh : px_Sh) (M : px_M) (L : px_L) (R : px_R) (nw : Nat) (wa ch ly : Nat → Nat) : Prop := nw ≤ 4 ∧ (M 14 5 = nI nw ∧ M 73 27 = nI nw) ∧ (∀ w, w < nw → WorI sh M L R wa ch ly w) ∧ (∀ v w, v < nw → w < nw → wa v = wa w → v = w) ∧ ∀ v w, v < nw → w < nw → v ≠ w → R (wa v) 3 ≠ none → R (wa w) 3 ≠ none → ch v ≠ ch w ∧ ly v ≠ ly w
def Iw (sh : px_Sh) (M : px_M) (L : px_L) (R : px_R) : Prop := ∃ nw wa ch ly, WI sh M L R nw wa ch ly
def VI (M : px_M) (nw d r a nd : Nat) : Prop :=
  (nw ≤ 4 ∧ d ≤ 2000 ∧ r ≤ 255 ∧ a < 72 ∧ nd ≤ 20) ∧ (M 14 5 = nI nw ∧ M 73 27 = nI nw ∧ M 14 0 = nI d ∧ M 73 24 = nI d ∧ M 14 1 = nI r ∧ M 73 25 = nI r ∧ M 14 2 = nI a ∧ M 73 26 = nI a ∧ M 14 8 = nI nd ∧ M 73 41 = nI nd) ∧
  (M 14 3 = M 73 28 ∧ (M 14 3 = -1 ∨ ∃ g, g < nw ∧ M 14 3 = nI g)) ∧ (∀ k, k < nd → M 16 k = M 179 k ∧ M 17 k = M 180 k) ∧
  ∀ e, e < d → d ≤ e + 64 → M 18 (4 * (e % 64)) = M 181 e ∧ M 18 (4 * (e % 64) + 1) = M 182 e ∧ M 18 (4 * (e % 64) + 2) = M 183 e ∧ M 18 (4 * (e % 64) + 3) = M 184 e
def Iv (M : px_M) : Prop := ∃ nw d r a nd, VI M nw d r a nd
/-- the dust falls on panels that there are -/
def Idu (M : px_M) : Prop := ∃ np nd, np ≤ 16 ∧ nd ≤ 20 ∧ M 6 1 = nI np ∧ M 14 8 = nI nd ∧ ∀ k, k < nd → ∃ p, p < np ∧ M 16 k = nI p
theorem VI.fr {sh : px_Sh} {M M' : px_M} {nw d r a nd : Nat} (h : VI M nw d r a nd) (hM : sm_ sh 3 M M') : VI M' nw d r a nd := by
  obtain ⟨h1, h2, h3, h4, h5⟩ := h
  refine ⟨h1, ?_, ?_, fun k hk => ?_, fun e q1 q2 => ?_⟩
  · rw [hM 14 5 rfl, hM 73 27 rfl, hM 14 0 rfl, hM 73 24 rfl, hM 14 1 rfl, hM 73 25 rfl, hM 14 2 rfl, hM 73 26 rfl, hM 14 8 rfl, hM 73 41 rfl]; exact h2
  · rw [hM 14 3 rfl, hM 73 28 rfl]; exact h3
  · rw [hM 16 k rfl, hM 17 k rfl, hM 179 k rfl, hM 180 k rfl]; exact h4 k hk
  · rw [hM 18 _ rfl, hM 18 _ rfl, hM 18 _ rfl, hM 18 _ rfl, hM 181 _ rfl, hM 182 _ rfl, hM 183 _ rfl, hM 184 _ rfl]; exact h5 e q1 q2
theorem Idu.fr {sh : px_Sh} {M M' : px_M} (h : Idu M) (hM : sm_ sh 3 M M') (h6 : ∀ c, c ≤ 16 → M 6 1 = nI c → ∃ j, c ≤ j ∧ j ≤ 16 ∧ M' 6 1 = nI j) : Idu M' := by
  obtain ⟨np, nd, h1, h2, h3, h4, h5⟩ := h
  obtain ⟨j, j1, j2, j3⟩ := h6 np h1 h3
  refine ⟨j, nd, j2, h2, j3, by rw [hM 14 8 rfl]; exact h4, fun k hk => ?_⟩
  obtain ⟨p, p1, p2⟩ := h5 k hk
  exact ⟨p, by omega, by rw [hM 16 k rfl]; exact p2⟩
theorem WI.fr {sh sh' : px_Sh} {M M' : px_M} {L L' : px_L} {R R' : px_R} {nw : Nat} {wa ch ly : Nat → Nat} (h : WI sh M L R nw wa ch ly) (hM : sm_ sh 3 M M') (hL : sm_ sh 3 L L') (hR : sm_ sh 3 R R') (hs : ∀ a q, sh a = some q → sh' a = some q) : WI sh' M' L' R' nw wa ch ly := by
  obtain ⟨h1, h2, h3, h4, h5⟩ := h
  have hr3 : ∀ w, w < nw → R' (wa w) 3 = R (wa w) 3 := fun w hw => hR _ 3 (md_10 (h3 w hw).1.2.2 (h3 w hw).1.2.1 3)
  refine ⟨h1, ?_, fun w hw => ?_, h4, fun v w hv hw e q1 q2 => ?_⟩
  · rw [hM 14 5 rfl, hM 73 27 rfl]; exact h2
  · obtain ⟨⟨k1, k2, k3⟩, k4, wr, an, ws, k5, k6, k7⟩ := h3 w hw
    have m10 := fun j => md_10 (j := j) k3 k2
    unfold WorI
    rw [hM _ 0 (m10 0), hM _ 1 (m10 1), hM _ 2 (m10 2), hM 90 w rfl, hM 91 w rfl, hM 92 w rfl, hR 15 w rfl, hR _ 3 (m10 3)]
    refine ⟨⟨k1, hs _ _ k2, k3⟩, k4, wr, an, ws, k5, k6, ?_⟩
    rcases k7 with k7 | ⟨⟨c1, c2, c3⟩, ⟨l1, l2, l3⟩, c4, c5⟩
    · exact Or.inl k7
    · right
      rw [hR _ 3 (md_1 c3 c2 3), hM _ 0 (md_1 c3 c2 0), hM _ 1 (md_1 c3 c2 1), hM _ 2 (md_1 c3 c2 2), show L' (ly w) = L (ly w) from funext fun j => hL _ j (md_14 l3 l2 j)]
      exact ⟨⟨c1, hs _ _ c2, c3⟩, ⟨l1, hs _ _ l2, l3⟩, c4, c5⟩
  · rw [hr3 v hv] at q1
    rw [hr3 w hw] at q2
    exact h5 v w hv hw e q1 q2
section VOY
variable {sh : px_Sh} {M : px_M} {L : px_L} {R : px_R} {n nw d r a nd : Nat} {wa ch ly : Nat → Nat}
theorem p_goal (hI : VI M nw d r a nd) (p1 : Int32) :
    (∃ q M1 M2, f_X11_goal M p1 = some (.inl (q, M1)) ∧ f_X12_goal M1 p1 = some (q, M2) ∧ M2 73 0 = 0 ∧ kp sh [3] M M2 ∧ VI M2 nw d r a nd ∧ (∀ c j, ¬ (c = 14 ∧ j = 3) → ¬ (c = 73 ∧ (j = 28 ∨ j = 0)) → M2 c j = M c j)) ∨ (f_X11_goal M p1 = some (.inr 2) ∧ f_X12_goal M p1 = some (0, px_t M 1)) := by
  obtain ⟨h1, h2, h3, h4, h5⟩ := hI
  have hin : ∀ x : Int32, f_X12_in x (-1) (nI nw - 1) = some (bI (x = -1 ∨ 0 ≤ x ∧ x ≤ nI nw - 1)) := by
    intro x
    rw [e_in]
    congr 1
    have e : (nI nw - 1).toInt = (nw : Int) - 1 := pk_sub_toInt (b := 1) (by omega) (by decide)
    have z0 : (0 : Int32).toInt = 0 := by decide
    have z1 : (-1 : Int32).toInt = -1 := by decide
    by_cases q : x = -1 ∨ 0 ≤ x ∧ x ≤ nI nw - 1
    · rw [bI_t q, bI_t]
      rw [Int32.le_iff_toInt_le, Int32.le_iff_toInt_le]
      rcases q with rfl | ⟨q1, q2⟩
      · omega
      · rw [Int32.le_iff_toInt_le] at q1 q2
        omega
    · rw [bI_f q, bI_f]
      intro q2
      apply q
      rw [Int32.le_iff_toInt_le, Int32.le_iff_toInt_le] at q2
      rw [Int32.le_iff_toInt_le, Int32.le_iff_toInt_le, ← Int32.toInt_inj]
      omega
  by_cases hc : p1 = -1 ∨ 0 ≤ p1 ∧ p1 ≤ nI nw - 1
  · left
    have hn : p1 = -1 ∨ ∃ g, g < nw ∧ p1 = nI g := by
      rcases hc with hc | hc
      · exact Or.inl hc
      · rcases rng p1 (k := nw) (by omega) with ⟨g, g1, g2, -⟩ | ⟨-, w1, -⟩
        · exact Or.inr ⟨g, g1, g2⟩
        · rw [e_within, bI_t hc] at w1; cases w1
    refine ⟨M 14 3, px_u M 14 3 p1, px_u (px_u (px_u M 14 3 p1) 73 0 0) 73 28 p1, ?_, ?_, ?_, ?_, ?_, ?_⟩
    · unfold f_X11_goal f_X11_goal_16 f_X11_goal_21 f_X11_goal_24 f_X9_hasWorld
      by_cases q : p1 = -1
      · rw [if_pos q, if_neg (by decide)]; rfl
      · have q2 : 0 ≤ p1 ∧ p1 ≤ nI nw - 1 := by rcases hc with hc | hc; exact absurd hc q; exact hc
        simp only [if_neg q, h2.1, e_within, bI_t q2, bd1_e, ok_t zb1, if_neg (show ¬ (1 : Int32) = 0 by decide), nm_u]
    · have e27 : (px_u (px_u M 14 3 p1) 73 0 0) 73 27 = nI nw := by simp (disch := omega) only [pu_n]; exact h2.2.1
      have e28 : (px_u (px_u M 14 3 p1) 73 0 0) 73 28 = M 14 3 := by simp (disch := omega) only [pu_n]; exact h3.1.symm
      unfold f_X12_goal f_X12_goal_25
      simp only [nm_u, e27, hin, bI_t hc, bd1_e, if_neg (show ¬ (1 : Int32) = 0 by decide), e_bf, if_true, e28]
    · simp (disch := omega) only [pu_n]; exact px_u_in _ _ _ _
    · exact ((kp.rf.u 3 rfl (by decide)).u 0 rfl (by decide)).u 3 rfl (by decide)
    · refine ⟨h1, ?_, ?_, fun k hk => ?_, fun e q1 q2 => ?_⟩
      · simp (disch := omega) only [pu_n]; exact h2
      · simp (disch := omega) only [pu_n, px_u_in]; exact ⟨trivial, hn⟩
      · simp (disch := omega) only [pu_n]; exact h4 k hk
      · simp (disch := omega) only [pu_n]; exact h5 e q1 q2
    · intro c j q1 q2
      simp (disch := omega) only [pu_n]
  · right
    have e27 : (px_u M 73 0 0) 73 27 = nI nw := h2.2.1
    have q : ¬ p1 = -1 := fun q => hc (Or.inl q)
    have q2 : ¬ (0 ≤ p1 ∧ p1 ≤ nI nw - 1) := fun q => hc (Or.inr q)
    unfold f_X11_goal f_X12_goal f_X12_goal_25 f_X11_goal_21 f_X9_hasWorld
    simp only [if_neg q, h2.1, e_within, bI_f q2, bd1_e, ok_t zb0, if_true, nm_u, e27, hin, bI_f hc, e_bt (show ¬ (1 : Int32) = 0 by decide), if_neg (show ¬ (1 : Int32) = 0 by decide)]
    exact ⟨trivial, trivial⟩
theorem p_angle (hI : WI sh M L R nw wa ch ly) (p1 p2 : Int32) :
    (∃ q, f_X11_angle sh M R p1 p2 = some (.inl q) ∧ f_X12_angle M p1 p2 = some (q, px_u M 73 0 0)) ∨ (f_X11_angle sh M R p1 p2 = some (.inr 2) ∧ f_X12_angle M p1 p2 = some (0, px_t M 1)) ∨ (f_X11_angle sh M R p1 p2 = some (.inr 0) ∧ f_X12_angle M p1 p2 = some (0, px_t M 2)) := by
  obtain ⟨h1, h2, h3, h4, h5⟩ := hI
  have e27 : (px_u M 73 0 0) 73 27 = nI nw := h2.2
  unfold f_X11_angle f_X12_angle f_X9_hasWorld f_X12_angle_25 f_X12_angle_56
  simp only [nm_u, h2.1, e27]
  rcases rng p1 (k := nw) (by omega) with ⟨w, hw, rfl, w1, w2⟩ | ⟨-, w1, w2⟩
  · obtain ⟨k1, k4, -⟩ := h3 w hw
    simp only [w1, w2, bd1_e, ok_t zb1, e_within p2, e_in p2, bI_0, e_bf, if_neg (show ¬ (1 : Int32) = 0 by decide), if_true]
    by_cases q : 0 ≤ p2 ∧ p2 ≤ 3000
    · left
      unfold f_X11_angle_22 f_X10_angleOn f_X12_angle_49 f_X12_angleOf
      simp only [q, not_true_eq_false, if_false, and_self, ok_t (ix_k (show w < 4 by omega) (by decide : 4 < 2 ^ 31)), nI_clamp (show w < 2 ^ 31 by omega), k1.1, bd1_e, ok_t (hk_t k1.2.1), e_bf, if_true, k4.2.1, k4.2.2]
      exact ⟨_, rfl, rfl⟩
    · right; right
      unfold f_X12_angle_49 f_X12_angle_56
      simp [q, e_bt, bd1_e]
  · right; left
    simp only [w1, w2, bd1_e, ok_t zb0, if_true, e_bt (show ¬ (1 : Int32) = 0 by decide), if_neg (show ¬ (1 : Int32) = 0 by decide)]
    exact ⟨trivial, trivial⟩
theorem p_note (hI : VI M nw d r a nd) (p1 p2 : Int32) :
    (∃ q, f_X11_note M p1 p2 = some (.inl q) ∧ f_X12_note M p1 p2 = some (q, px_u M 73 0 0)) ∨ (f_X11_note M p1 p2 = some (.inr 0) ∧ f_X12_note M p1 p2 = some (0, px_t M 1)) := by
  obtain ⟨h1, h2, h3, h4, h5⟩ := hI
  have e24 : (px_u M 73 0 0) 73 24 = nI d := h2.2.2.2.1
  have t64 : (nI d - 64).toInt = (d : Int) - 64 := pk_sub_toInt (b := 64) (by omega) (by decide)
  have td : (nI d).toInt = (d : Int) := nI_toInt (by omega)
  have z0 : (0 : Int32).toInt = 0 := by decide
  unfold f_X11_note f_X12_note
  simp only [nm_u, e_within, e_in, bd1_e, bI_0]
  by_cases hc : 0 ≤ p2 ∧ p2 ≤ 3
  · left
    unfold f_X11_note_9 f_X9_noteOf f_X9_noteOf_27 f_X9_noteOf_28 f_X9_noteOf_50 f_X12_note_20 f_X12_note_52 f_X12_note_101
    simp only [hc, not_true_eq_false, and_self, if_false, e_max, bd1_e, e_bf, if_true, h2.2.2.1, e24, nm_u, if_neg (show ¬ (1 : Int32) = 0 by decide)]
    by_cases q1 : p1 < 0
    · refine ⟨-1, ?_, ?_⟩
      · rw [if_pos]
        · rfl
        · split
          next hh => exact Int32.lt_trans q1 hh
          next hh => exact q1
      · rw [if_pos q1]
    · obtain ⟨e, he, rfl⟩ := nI_of q1
      have te : (nI e).toInt = (e : Int) := nI_toInt he
      rw [if_neg q1]
      by_cases q2 : nI d ≤ nI e
      · refine ⟨-1, ?_, by rw [if_pos q2]⟩
        rw [if_pos q2, ite_self]; rfl
      · have hed : e < d := by
          rw [Int32.le_iff_toInt_le] at q2
          omega
        rw [if_neg q2, if_neg q2]
        by_cases q3 : d ≤ e + 64
        · have a1 : ¬ nI e < (if 0 < nI d - 64 then nI d - 64 else 0) := by
            rw [Int32.lt_iff_toInt_lt]
            split
            · omega
            · omega
          have a2 : nI d - 64 ≤ nI e := by rw [Int32.le_iff_toInt_le]; omega
          rw [if_neg a1, if_pos a2]
          obtain ⟨j, hj, rfl⟩ := nI_of2 (M := 3) (n := 3) (by decide) (Int32.not_lt.mpr hc.1) hc.2
          have a3 : 4 * (nI e - nI e / 64 * 64) + nI j = nI (4 * (e % 64) + j) := by
            rw [show (64 : Int32) = nI 64 from rfl, pk_rem (by omega) (by decide) (by decide), show (4 : Int32) = nI 4 from rfl, pk_mul, nI_add]
          have a4 : 4 * (e % 64) + j < 256 := by omega
          rw [a3, ok_t (ix_k a4 (by decide)), nI_clamp (by omega)]
          simp only [ok_t (ix_k (show e < 2000 by omega) (by decide : 2000 < 2 ^ 31)), nI_clamp he]
          have h5e := h5 e hed q3
          obtain rfl | rfl | rfl | rfl : j = 0 ∨ j = 1 ∨ j = 2 ∨ j = 3 := by omega
          · exact ⟨M 18 (4 * (e % 64) + 0), rfl, by rw [if_pos (show nI 0 = 0 from rfl)]; exact congrArg (fun x => some (x, _)) h5e.1.symm⟩
          · exact ⟨M 18 (4 * (e % 64) + 1), rfl, by rw [if_neg (by decide), if_pos (show nI 1 = 1 from rfl)]; exact congrArg (fun x => some (x, _)) h5e.2.1.symm⟩
          · exact ⟨M 18 (4 * (e % 64) + 2), rfl, by rw [if_neg (by decide), if_neg (by decide), if_pos (show nI 2 = 2 from rfl)]; exact congrArg (fun x => some (x, _)) h5e.2.2.1.symm⟩
          · exact ⟨M 18 (4 * (e % 64) + 3), rfl, by rw [if_neg (by decide), if_neg (by decide), if_neg (by decide)]; exact congrArg (fun x => some (x, _)) h5e.2.2.2.symm⟩
        · have a1 : nI e < (if 0 < nI d - 64 then nI d - 64 else 0) := by
            have : 0 < nI d - 64 := by rw [Int32.lt_iff_toInt_lt]; omega
            rw [if_pos this, Int32.lt_iff_toInt_lt]; omega
          have a2 : ¬ nI d - 64 ≤ nI e := by rw [Int32.le_iff_toInt_le]; omega
          rw [if_pos a1, if_neg a2]
          exact ⟨-1, rfl, rfl⟩
  · right
    unfold f_X12_note_20
    simp [hc, e_bt, bd1_e]
theorem p_dust (hI : VI M nw d r a nd) (hD : Idu M) (h9 : M 73 9 = M 6 1) (p1 p2 : Int32) :
    (∃ q M1 M2, f_X11_dust M p1 p2 = some (.inl (q, M1)) ∧ f_X12_dust M1 p1 p2 = some (q, M2) ∧ M2 73 0 = 0 ∧ kp sh [3] M M2 ∧ (∃ nd, VI M2 nw d r a nd) ∧ Idu M2 ∧ (∀ c j, c ≠ 14 → c ≠ 16 → c ≠ 17 → c ≠ 73 → c ≠ 179 → c ≠ 180 → M2 c j = M c j) ∧ M2 14 5 = M 14 5 ∧ M2 73 27 = M 73 27) ∨ (f_X11_dust M p1 p2 = some (.inr 3) ∧ f_X12_dust M p1 p2 = some (0, px_t M 1)) ∨ (f_X11_dust M p1 p2 = some (.inr 0) ∧ f_X12_dust M p1 p2 = some (0, px_t M 2)) := by
  have hI' := hI
  have hD' := hD
  obtain ⟨h1, h2, h3, h4, h5⟩ := hI
  obtain ⟨np, nd', d1, d2, d3, d4, d5⟩ := hD
  obtain rfl : nd' = nd := (nI_eq (by omega) (by omega)).mp (d4.symm.trans h2.2.2.2.2.2.2.2.2.1)
  rw [d3] at h9
  have e9 : (px_u M 73 0 0) 73 9 = nI np := h9
  have e24 : (px_u M 73 0 0) 73 24 = nI d := h2.2.2.2.1
  rcases rng p1 (k := np) (by omega) with ⟨k, hk, rfl, w1, w2⟩ | ⟨-, w1, w2⟩
  · by_cases hc : (0 ≤ p2 ∧ p2 ≤ 1999) ∧ ¬ p2 < nI d
    · left
      have hle : nI d ≤ p2 := Int32.not_lt.mp hc.2
      have hgc : f_X11_dust M (nI k) p2 = bd1 (f_X9_addDust M (nI k) p2) (fun e => some (.inl (e.1, e.2))) := by
        unfold f_X11_dust f_X11_dust_38 f_X11_dust_41 f_X8_hasPanel
        simp only [d3, w1, bd1_e, ok_t zb1, if_neg (show ¬ (1 : Int32) = 0 by decide), e_within p2, bI_t hc.1, h2.2.2.1, if_neg hc.2]
        cases f_X9_addDust M (nI k) p2 <;> rfl
      have hgm : ∀ M', (px_u M' 73 0 0) 73 9 = nI np → (px_u M' 73 0 0) 73 24 = nI d → f_X12_dust M' (nI k) p2 = f_X12_dust_57 (px_u M' 73 0 0) (nI k) p2 0 := by
        intro M' x1 x2
        unfold f_X12_dust f_X12_dust_25
        simp only [nm_u, x1, w2, bd1_e, if_neg (show ¬ (1 : Int32) = 0 by decide), e_bf, if_true, e_in p2, bI_t hc.1, x2, if_pos hle]
      by_cases e20 : nd' = 20
      · subst e20
        refine ⟨-1, M, px_u M 73 0 0, ?_, ?_, px_u_in _ _ _ _, px_0_kp _ _, ⟨20, hI'.fr (sh := sh) (sm_u0 (by decide) 0)⟩, ?_, fun c j _ _ _ q _ _ => pu_n (by omega), rfl, rfl⟩
        · rw [hgc]
          unfold f_X9_addDust
          rw [if_pos (show M 14 8 = 20 from d4)]; rfl
        · rw [hgm M e9 e24]
          unfold f_X12_dust_57
          rw [e_bf, bd1_e, if_pos rfl, if_pos (show (px_u M 73 0 0) 73 41 = 20 from h2.2.2.2.2.2.2.2.2.2)]
        · exact hD'.fr (sh := sh) (sm_u0 (by decide) 0) fun c hc q => ⟨c, Nat.le_refl _, hc, q⟩
      · have hne : ¬ nI nd' = 20 := nI_eq' (b := 20) (by omega) (by decide) e20
        obtain ⟨Mc, hMc⟩ : ∃ Mc, Mc = px_u (px_u (px_u M 16 nd' (nI k)) 17 nd' p2) 14 8 (nI (nd' + 1)) := ⟨_, rfl⟩
        obtain ⟨M2, hM2⟩ : ∃ M2, M2 = px_u (px_u (px_u (px_u Mc 73 0 0) 179 nd' (nI k)) 180 nd' p2) 73 41 (nI (nd' + 1)) := ⟨_, rfl⟩
        refine ⟨nI (nd' + 1), Mc, M2, ?_, ?_, ?_, ?_, ?_, ?_, ?_, ?_, ?_⟩
        · rw [hgc]
          unfold f_X9_addDust
          simp (disch := omega) only [nm_u, d4, if_neg hne, pu_n (a := 14) (b := 8) (c := 16), pu_n (a := 14) (b := 8) (c := 17), ok_t (ix_k (show nd' < 20 by omega) (by decide : 20 < 2 ^ 31)), nI_clamp (show nd' < 2 ^ 31 by omega), nI_1, bd1_e, px_u_in, hMc]
        · have x9 : (px_u Mc 73 0 0) 73 9 = nI np := by rw [hMc]; simp (disch := omega) only [pu_n]; exact h9
          have x24 : (px_u Mc 73 0 0) 73 24 = nI d := by rw [hMc]; simp (disch := omega) only [pu_n]; exact h2.2.2.2.1
          have x41 : (px_u Mc 73 0 0) 73 41 = nI nd' := by rw [hMc]; simp (disch := omega) only [pu_n]; exact h2.2.2.2.2.2.2.2.2.2
          rw [hgm Mc x9 x24]
          unfold f_X12_dust_57
          simp (disch := omega) only [nm_u, e_bf, bd1_e, if_true, x41, if_neg hne, pu_n (a := 73) (b := 41) (c := 179), pu_n (a := 73) (b := 41) (c := 180), ok_t (ix_k (show nd' < 20 by omega) (by decide : 20 < 2 ^ 31)), nI_clamp (show nd' < 2 ^ 31 by omega), nI_1, px_u_in, hM2]
        · rw [hM2]; simp (disch := omega) only [pu_n]; exact px_u_in _ _ _ _
        · rw [hM2, hMc]
          exact ((((((kp.rf.u 3 rfl (by decide)).u 3 rfl (by decide)).u 3 rfl (by decide)).u 0 rfl (by decide)).u 3 rfl (by decide)).u 3 rfl (by decide)).u 3 rfl (by decide)
        · refine ⟨nd' + 1, ⟨h1.1, h1.2.1, h1.2.2.1, h1.2.2.2.1, by omega⟩, ?_, ?_, fun i hi => ?_, fun e q1 q2 => ?_⟩
          · rw [hM2, hMc]
            simp (disch := omega) only [pu_n, px_u_in]
            exact ⟨h2.1, h2.2.1, h2.2.2.1, h2.2.2.2.1, h2.2.2.2.2.1, h2.2.2.2.2.2.1, h2.2.2.2.2.2.2.1, h2.2.2.2.2.2.2.2.1, trivial, trivial⟩
          · rw [hM2, hMc]
            simp (disch := omega) only [pu_n]
            exact h3
          · by_cases e : i = nd'
            · subst e
              rw [hM2, hMc]
              simp (disch := omega) only [pu_n, px_u_in]
              exact ⟨trivial, trivial⟩
            · rw [hM2, hMc]
              simp (disch := omega) only [pu_n]
              exact h4 i (by omega)
          · rw [hM2, hMc]
            simp (disch := omega) only [pu_n]
            exact h5 e q1 q2
        · refine ⟨np, nd' + 1, d1, by omega, ?_, ?_, fun i hi => ?_⟩
          · rw [hM2, hMc]; simp (disch := omega) only [pu_n]; exact d3
          · rw [hM2, hMc]; simp (disch := omega) only [pu_n, px_u_in]
          · by_cases e : i = nd'
            · subst e
              exact ⟨k, hk, by rw [hM2, hMc]; simp (disch := omega) only [pu_n, px_u_in]⟩
            · obtain ⟨p, x1, x2⟩ := d5 i (by omega)
              exact ⟨p, x1, by rw [hM2, hMc]; simp (disch := omega) only [pu_n]; exact x2⟩
        · intro c j q1 q2 q3 q4 q5 q6
          rw [hM2, hMc]; simp (disch := omega) only [pu_n]
        · rw [hM2, hMc]; simp (disch := omega) only [pu_n]
        · rw [hM2, hMc]; simp (disch := omega) only [pu_n]
    · right; right
      have hb : f_X12_dust_52 (px_u M 73 0 0) (nI k) p2 = some (0, px_t M 2) := by
        unfold f_X12_dust_52 f_X12_dust_57 f_X12_dust_64
        rw [e_bt (by decide), bd1_e]; rfl
      unfold f_X11_dust f_X12_dust f_X12_dust_25 f_X8_hasPanel f_X11_dust_37 f_X11_dust_38
      simp only [d3, nm_u, e9, e24, h2.2.2.1, w1, w2, bd1_e, ok_t zb1, if_neg (show ¬ (1 : Int32) = 0 by decide), e_bf, if_true, hb, e_within p2, e_in p2]
      by_cases q1 : 0 ≤ p2 ∧ p2 ≤ 1999
      · have q2 : p2 < nI d := Decidable.not_not.mp fun q => hc ⟨q1, q⟩
        rw [bI_t q1, if_neg (show ¬ (1 : Int32) = 0 by decide), if_pos q2, if_neg (show ¬ (1 : Int32) = 0 by decide), if_neg (Int32.not_le.mpr q2)]
        exact ⟨rfl, rfl⟩
      · rw [bI_f q1]
        exact ⟨if_pos rfl, if_pos rfl⟩
  · right; left
    unfold f_X11_dust f_X12_dust f_X12_dust_25 f_X12_dust_64 f_X8_hasPanel
    simp only [d3, nm_u, e9, w1, w2, bd1_e, ok_t zb0, if_true, e_bt (show ¬ (1 : Int32) = 0 by decide), if_neg (show ¬ (1 : Int32) = 0 by decide)]
    exact ⟨trivial, trivial⟩
end VOY
