/-! clear and open -/
theorem FoldI.lay {M : px_M} {n u o : Nat} {row : List Nat} (h : FoldI M n u o row) (hn : n ≠ 0) : (∀ p, p < n → M 3 p = nI (row.idxOf p)) ∧ ∀ p, p < n → row.idxOf p < 8 := by
  obtain ⟨h1, h2, h3, h4, h5, h6⟩ := h
  obtain ⟨k1, k2, k3, k4⟩ := h5 hn
  constructor
  · intro p hp
    have a1 := ix_lt (k2.2.2.1 p hp)
    have a2 := k3.2 _ a1
    rw [gd_in a1, List.getElem_idxOf a1] at a2
    exact a2
  · intro p hp
    have a1 := ix_lt (k2.2.2.1 p hp)
    have := k2.2.1
    omega
theorem nI_m2 {n : Nat} (h : 2 ≤ n) : nI n - 2 = nI (n - 1) - 1 := by
  rw [show nI n - 2 = nI (n - 2) from pk_sub (b := 2) h, show nI (n - 1) - 1 = nI (n - 1 - 1) from pk_sub (b := 1) (by omega)]
  congr 1
theorem kp_75 {sh : px_Sh} {M M' : px_M} (h : ∀ a j, a ≠ 75 → M' a j = M a j) : kp sh [] M M' := fun a j hn => h a j fun q => hn (by rw [q]; exact List.mem_cons_self)
section OPEN
variable {sh : px_Sh} {M : px_M} {n u o : Nat} {row : List Nat}
theorem FoldI.u0 (h : FoldI M n u o row) (v : Int32) : FoldI (px_u M 73 0 v) n u o row := h.fr (sh := fun _ => none) (sm_u0 (by decide) v)
theorem FoldI.o31 (h : FoldI M n u o row) : o < 2 ^ 31 := by
  have := h.2.1.2
  have h2 : 2 ^ (n - 1) ≤ 2 ^ 7 := Nat.pow_le_pow_right (by decide) (by have := h.1; omega)
  omega
theorem p_clear (hI : FoldI M n u o row) (p1 : Int32) :
    (∃ r M2, f_X11_clear M p1 = some (.inl r) ∧ f_X12_clear M p1 = some (r, M2) ∧ zb r = true ∧ M2 73 0 = 0 ∧ kp sh [] M M2) ∨ (f_X11_clear M p1 = some (.inr 1) ∧ f_X12_clear M p1 = some (0, px_t M 1)) ∨ (f_X11_clear M p1 = some (.inr 2) ∧ f_X12_clear M p1 = some (0, px_t M 2)) ∨ (f_X11_clear M p1 = some (.inr 0) ∧ f_X12_clear M p1 = some (0, px_t M 3)) := by
  have hI' := hI
  have ho := hI.o31
  obtain ⟨h1, h2, h3, h4, h5, h6⟩ := hI
  by_cases hn0 : n = 0
  · right; left
    subst hn0
    unfold f_X11_clear f_X12_clear f_X11_clear_15 f_X12_clear_18 f_X12_clear_66
    rw [h3.1, if_pos (by decide), if_pos rfl, nm_u, if_pos (show (px_u M 73 0 0) 73 3 = 0 from h4 rfl), e_bt (by decide), bd1_e]
    exact ⟨rfl, rfl⟩
  · have hn8 : n ≤ 8 := by omega
    have hn2 : 2 ≤ n := by omega
    obtain ⟨⟨k, kp0, kp1, kp2⟩, k2, k3, k4⟩ := h5 hn0
    obtain ⟨hP, hb⟩ := hI'.lay hn0
    have e1 : (px_u M 73 0 0) 73 1 = nI n := h3.2.1
    have e3 : ¬ (px_u M 73 0 0) 73 3 = 0 := by rw [show (px_u M 73 0 0) 73 3 = M 73 3 from rfl, kp2]; exact nI_ne0 kp0 kp1
    have hc0 : f_X11_clear M p1 = f_X11_clear_15 M p1 1 := by
      unfold f_X11_clear
      rw [h3.1, if_neg (nI_nle (by omega) (by omega))]
    have hm0 : f_X12_clear M p1 = f_X12_clear_18 (px_u M 73 0 0) p1 0 := by
      unfold f_X12_clear
      rw [nm_u, if_neg e3]
    rw [hc0, hm0]
    unfold f_X11_clear_15 f_X12_clear_18
    rw [if_neg (by decide), e_bf, bd1_e, if_pos rfl]
    simp only [e1, h3.1, nI_m2 hn2]
    rcases rng p1 (k := n - 1) (by omega) with ⟨c, hc, rfl, w1, w2⟩ | ⟨-, w1, w2⟩
    · rw [w1, bd1_e, if_neg (by decide), w2, bd1_e, if_neg (by decide), h3.2.2.2.2, e_isOpen ho (by omega), bd1_e]
      have e78 : (px_u M 73 0 0) 78 c = b2 (o.testBit c) := h6 c (by omega)
      unfold f_X12_clear_45 f_X11_clear_58 f_X12_clear_66
      rw [e_bf, bd1_e, if_pos rfl, ok_t (ix_k (show c < 8 by omega) (by decide)), nI_clamp (by omega)]
      simp only [e78]
      by_cases q : o.testBit c = true
      · right; right; right
        rw [q, if_neg (show ¬ b2 true = 0 by decide), if_pos trivial, show b2 true = 1 from rfl, e_bt (by decide), bd1_e]
        exact ⟨rfl, rfl⟩
      · left
        rw [Bool.eq_false_iff.mpr q, if_pos (show b2 false = 0 from rfl), if_neg (by decide), show b2 false = 0 from rfl, e_bf, bd1_e, if_pos rfl]
        obtain ⟨M2, m1, m2⟩ := m_isClear (M := px_u M 73 0 0) e1 hn8 k2 k4 (s := o) (c := c) h6 (by omega)
        refine ⟨b2 (clrB n (fun p => row.idxOf p) o c), M2, ?_, ?_, b2_z _, ?_, ?_⟩
        · unfold f_X11_clear_61
          rw [h3.2.2.2.2, c_isClear h3.1 hn8 hP hb ho (by omega), bd1_e, ok_t (b2_z _)]; rfl
        · rw [m1, bd1_e, ok_t (b2_z _)]; rfl
        · rw [m2 73 0 (by decide)]; exact px_u_in _ _ _ _
        · exact (px_0_kp M 0).tr (kp_75 m2)
    · right; right; left
      unfold f_X12_clear_45 f_X12_clear_66
      rw [w1, bd1_e, if_pos rfl, w2, bd1_e, if_pos rfl, e_bt (by decide), bd1_e]
      exact ⟨rfl, rfl⟩
theorem tb_or (o c i : Nat) : (o ||| 2 ^ c).testBit i = (o.testBit i || decide (c = i)) := by rw [Nat.testBit_or, Nat.testBit_two_pow]
theorem or_lt {o c m : Nat} (ho : o < 2 ^ m) (hc : c < m) : o ||| 2 ^ c < 2 ^ m := Nat.or_lt_two_pow ho (Nat.pow_lt_pow_right (by decide) hc)
theorem p_open (hI : FoldI M n u o row) (p1 : Int32) :
    (∃ r M1 M2, f_X11_open M p1 = some (.inl (r, M1)) ∧ f_X12_open M1 p1 = some (r, M2) ∧ M2 73 0 = 0 ∧ kp sh [1] M M2 ∧ Ifold M2) ∨ (f_X11_open M p1 = some (.inr 1) ∧ f_X12_open M p1 = some (0, px_t M 1)) ∨ (f_X11_open M p1 = some (.inr 2) ∧ f_X12_open M p1 = some (0, px_t M 2)) := by
  have hI' := hI
  have ho := hI.o31
  obtain ⟨h1, h2, h3, h4, h5, h6⟩ := hI
  by_cases hn0 : n = 0
  · right; left
    subst hn0
    unfold f_X11_open f_X12_open f_X11_open_15 f_X12_open_18 f_X12_open_52
    rw [h3.1, if_pos (by decide), if_pos rfl, nm_u, if_pos (show (px_u M 73 0 0) 73 3 = 0 from h4 rfl), e_bt (by decide), bd1_e]
    exact ⟨rfl, rfl⟩
  · have hn8 : n ≤ 8 := by omega
    have hn2 : 2 ≤ n := by omega
    obtain ⟨⟨k, kp0, kp1, kp2⟩, k2, k3, k4⟩ := h5 hn0
    obtain ⟨hP, hb⟩ := hI'.lay hn0
    have hc0 : f_X11_open M p1 = f_X11_open_15 M p1 1 := by
      unfold f_X11_open
      rw [h3.1, if_neg (nI_nle (by omega) (by omega))]
    have hm0 : ∀ M', (px_u M' 73 0 0) 73 3 = nI k → f_X12_open M' p1 = f_X12_open_18 (px_u M' 73 0 0) p1 0 := by
      intro M' e
      unfold f_X12_open
      rw [nm_u, if_neg (by rw [e]; exact nI_ne0 kp0 kp1)]
    rcases rng p1 (k := n - 1) (by omega) with ⟨c, hc, rfl, w1, w2⟩ | ⟨-, w1, w2⟩
    · left
      have hc1 : f_X11_open M (nI c) = bd1 (f_X2_tryOpening M (nI c)) (fun e => some (.inl (e.1, e.2))) := by
        rw [hc0]
        unfold f_X11_open_15 f_X11_open_35
        rw [if_neg (by decide), h3.1, nI_m2 hn2, w1, bd1_e, if_neg (by decide)]
        cases f_X2_tryOpening M (nI c) <;> rfl
      have hm1 : ∀ M', (px_u M' 73 0 0) 73 3 = nI k → (px_u M' 73 0 0) 73 1 = nI n → f_X12_open M' (nI c) = f_X12_open_45 (px_u M' 73 0 0) (nI c) 0 := by
        intro M' e e2
        rw [hm0 M' e]
        unfold f_X12_open_18
        rw [e_bf, bd1_e, if_pos rfl]
        simp only [e2, nI_m2 hn2]
        rw [w2, bd1_e, if_neg (by decide)]
      by_cases q : o.testBit c = true
      · refine ⟨-1, M, px_u M 73 0 0, ?_, ?_, px_u_in _ _ _ _, px_0_kp _ _, n, u, o, row, hI'.u0 0⟩
        · rw [hc1]
          unfold f_X2_tryOpening
          rw [h3.2.2.2.2, e_isOpen ho (by omega), bd1_e, q]; rfl
        · rw [hm1 M kp2 h3.2.1]
          unfold f_X12_open_45
          rw [e_bf, bd1_e, if_pos rfl, ok_t (ix_k (show c < 8 by omega) (by decide)), nI_clamp (by omega), if_neg (show ¬ (px_u M 73 0 0) 78 c = 0 by rw [show (px_u M 73 0 0) 78 c = M 78 c from rfl, h6 c (by omega), q]; decide)]
      · have q0 := Bool.eq_false_iff.mpr q
        by_cases q2 : clrB n (fun p => row.idxOf p) o c = true
        · obtain ⟨Mc, hMc⟩ : ∃ Mc, Mc = px_u M 1 2 (nI (o ||| 2 ^ c)) := ⟨_, rfl⟩
          have x1 : (px_u Mc 73 0 0) 73 1 = nI n := by rw [hMc]; simp (disch := omega) only [pu_n]; exact h3.2.1
          have x3 : (px_u Mc 73 0 0) 73 3 = nI k := by rw [hMc]; simp (disch := omega) only [pu_n]; exact kp2
          have x78 : ∀ i, i < 8 → (px_u Mc 73 0 0) 78 i = b2 (o.testBit i) := fun i hi => by rw [hMc]; simp (disch := omega) only [pu_n]; exact h6 i hi
          obtain ⟨M2, m1, m2⟩ := m_isClear (M := px_u Mc 73 0 0) x1 hn8 k2 (fun j hj => by rw [hMc]; simp (disch := omega) only [pu_n]; exact k4 j hj) (s := o) (c := c) x78 (by omega)
          refine ⟨1, Mc, px_u M2 78 c 1, ?_, ?_, ?_, ?_, n, u, o ||| 2 ^ c, row, h1, ⟨h2.1, or_lt h2.2 (by omega)⟩, ?_, fun e => absurd e hn0, fun _ => ?_, fun i hi => ?_⟩
          · rw [hc1]
            unfold f_X2_tryOpening
            rw [h3.2.2.2.2, e_isOpen ho (by omega), bd1_e, q0, if_pos (show b2 false = 0 from rfl), c_isClear h3.1 hn8 hP hb ho (by omega), bd1_e, q2, if_neg (show ¬ b2 true = 0 by decide), nm_u, nm_u, shl1 c (by omega), orI, hMc]; rfl
          · rw [hm1 Mc x3 x1]
            unfold f_X12_open_45
            rw [e_bf, bd1_e, if_pos rfl, ok_t (ix_k (show c < 8 by omega) (by decide)), nI_clamp (by omega)]
            dsimp only
            rw [if_pos (show (px_u Mc 73 0 0) 78 c = 0 by rw [x78 c (by omega), q0]; rfl), m1, bd1_e, q2, if_neg (show ¬ b2 true = 0 by decide), ok_t (ix_k (show c < 8 by omega) (by decide)), nm_u]
          · rw [pu_n (by omega), m2 73 0 (by decide)]; exact px_u_in _ _ _ _
          · refine kp.u ?_ 1 rfl (by decide)
            refine kp.tr ?_ ((kp_75 m2).mono fun k hk => by rw [List.mem_singleton.mp hk]; exact List.mem_cons_self)
            rw [hMc]
            exact (kp.rf.u 1 rfl (by decide)).u 0 rfl (by decide)
          · have hr : ∀ a j, a ≠ 75 → a ≠ 78 → ¬ (a = 1 ∧ j = 2) → ¬ (a = 73 ∧ j = 0) → (px_u M2 78 c 1) a j = M a j := by
              intro a j a1 a2 a3 a4
              rw [pu_n (by omega), m2 a j a1, hMc]; simp (disch := omega) only [pu_n]
            rw [hr 1 0 (by decide) (by decide) (by decide) (by decide), hr 1 1 (by decide) (by decide) (by decide) (by decide), hr 73 1 (by decide) (by decide) (by decide) (by decide), hr 73 2 (by decide) (by decide) (by decide) (by decide)]
            refine ⟨h3.1, h3.2.1, h3.2.2.1, h3.2.2.2.1, ?_⟩
            rw [pu_n (by omega), m2 1 2 (by decide), hMc]; simp (disch := omega) only [pu_n, px_u_in]
          · have hr : ∀ a j, a ≠ 75 → a ≠ 78 → ¬ (a = 1 ∧ j = 2) → ¬ (a = 73 ∧ j = 0) → (px_u M2 78 c 1) a j = M a j := by
              intro a j a1 a2 a3 a4
              rw [pu_n (by omega), m2 a j a1, hMc]; simp (disch := omega) only [pu_n]
            refine ⟨⟨k, kp0, kp1, by rw [hr 73 3 (by decide) (by decide) (by decide) (by decide)]; exact kp2⟩, k2, ⟨fun j hj => ?_, fun j hj => ?_⟩, fun j hj => ?_⟩
            · rw [hr 2 j (by decide) (by decide) (by omega) (by omega)]; exact k3.1 j hj
            · rw [hr 3 _ (by decide) (by decide) (by omega) (by omega)]; exact k3.2 j hj
            · rw [hr 74 j (by decide) (by decide) (by omega) (by omega)]; exact k4 j hj
          · rw [tb_or]
            by_cases e : i = c
            · subst e; rw [px_u_in]; simp; rfl
            · rw [pu_n (by omega), m2 78 i (by decide), x78 i hi]; simp [show ¬ c = i from fun x => e x.symm]
        · have q20 := Bool.eq_false_iff.mpr q2
          obtain ⟨M2, m1, m2⟩ := m_isClear (M := px_u M 73 0 0) h3.2.1 hn8 k2 k4 (s := o) (c := c) h6 (by omega)
          refine ⟨0, M, M2, ?_, ?_, ?_, ?_, n, u, o, row, (hI'.u0 0).fr (sh := sh) ((kp_75 m2).sm (by decide))⟩
          · rw [hc1]
            unfold f_X2_tryOpening
            rw [h3.2.2.2.2, e_isOpen ho (by omega), bd1_e, q0, if_pos (show b2 false = 0 from rfl), c_isClear h3.1 hn8 hP hb ho (by omega), bd1_e, q20, if_pos (show b2 false = 0 from rfl)]; rfl
          · rw [hm1 M kp2 h3.2.1]
            unfold f_X12_open_45
            rw [e_bf, bd1_e, if_pos rfl, ok_t (ix_k (show c < 8 by omega) (by decide)), nI_clamp (by omega)]
            dsimp only
            rw [if_pos (show (px_u M 73 0 0) 78 c = 0 by rw [show (px_u M 73 0 0) 78 c = M 78 c from rfl, h6 c (by omega), q0]; rfl), m1, bd1_e, q20, if_pos (show b2 false = 0 from rfl)]
          · rw [m2 73 0 (by decide)]; exact px_u_in _ _ _ _
          · exact (px_0_kp M 0).tr ((kp_75 m2).mono fun k hk => by rw [List.mem_singleton.mp hk]; exact List.mem_cons_self)
    · right; right
      have hm1 := hm0 M kp2
      rw [hc0, hm1]
      unfold f_X11_open_15 f_X12_open_18 f_X12_open_45 f_X12_open_52
      rw [if_neg (by decide), e_bf, bd1_e, if_pos rfl]
      simp only [show (px_u M 73 0 0) 73 1 = nI n from h3.2.1, h3.1, nI_m2 hn2]
      rw [w1, bd1_e, if_pos rfl, w2, bd1_e, if_pos rfl, e_bt (by decide), bd1_e]
      exact ⟨rfl, rfl⟩
end OPEN
