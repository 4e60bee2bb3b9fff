/-! world -/
section WORLD
variable {sh : px_Sh} {M : px_M} {L : px_L} {R : px_R} {n nw d r a nd : Nat} {wa ch ly : Nat → Nat}
set_option maxHeartbeats 1000000 in
theorem p_world (hI : WI sh M L R nw wa ch ly) (hV : VI M nw d r a nd) (hn : 220 ≤ n) (hs : ∀ k, n ≤ k → sh k = none) (p1 p2 p3 : Int32) :
    (∃ q sh1 M1 L1 R1 n1 M2, f_X11_world sh M L R n p1 p2 p3 = some (.inl (q, sh1, M1, L1, R1, n1)) ∧ f_X12_world M1 p1 p2 p3 = some (q, M2) ∧ M2 73 0 = 0 ∧ (kp sh [3] M M2 ∧ kp sh [] L L1 ∧ kp sh [3] R R1) ∧ ((sh1 = sh ∧ n1 = n) ∨ (sh1 = px_c sh n (some (10, 0)) ∧ n1 = n + 1)) ∧ (∃ nw' wa' ch' ly', WI sh1 M2 L1 R1 nw' wa' ch' ly' ∧ nw ≤ nw' ∧ ∀ w, w < nw → wa' w = wa w ∧ R1 (wa w) 3 = R (wa w) 3) ∧ (∃ nw, VI M2 nw d r a nd) ∧ (∀ k, M2 16 k = M 16 k) ∧ M2 14 8 = M 14 8) ∨ (f_X11_world sh M L R n p1 p2 p3 = some (.inr 0) ∧ f_X12_world M p1 p2 p3 = some (0, px_t M 1)) := by
  by_cases hc : (0 ≤ p1 ∧ p1 ≤ 255) ∧ (0 ≤ p2 ∧ p2 ≤ 71) ∧ (0 ≤ p3 ∧ p3 ≤ 10)
  · left
    have hg : ∀ M', f_X11_world sh M' L R n p1 p2 p3 = bd1 (f_X11_world_39 sh M' L R n p1 p2 p3) (fun e => some (.inl e)) ∧ f_X12_world M' p1 p2 p3 = f_X12_world_42 (px_u M' 73 0 0) p1 p2 p3 0 := by
      intro M'
      unfold f_X11_world f_X12_world f_X11_world_36
      simp only [e_within, e_in, bI_t hc.1, bI_t hc.2.1, bI_t hc.2.2, bd1_e, nm_u, if_neg (show ¬ (1 : Int32) = 0 by decide), and_self]
    have hI' := hI
    obtain ⟨h1, h2, h3, h4, h5⟩ := hI
    by_cases e4 : nw = 4
    · subst e4
      refine ⟨-1, sh, M, L, R, n, px_u M 73 0 0, ?_, ?_, px_u_in _ _ _ _, ⟨px_0_kp _ _, kp.rf, kp.rf⟩, Or.inl ⟨rfl, rfl⟩, ⟨4, wa, ch, ly, hI'.fr (sm_u0 (by decide) 0) (fun _ _ _ => rfl) (fun _ _ _ => rfl) (fun _ _ q => q), Nat.le_refl _, fun _ _ => ⟨rfl, rfl⟩⟩, ⟨4, hV.fr (sh := sh) (sm_u0 (by decide) 0)⟩, fun _ => rfl, rfl⟩
      · rw [(hg M).1]
        unfold f_X11_world_39 f_X9_addWorld
        rw [if_pos (show M 14 5 = 4 from h2.1)]; rfl
      · rw [(hg M).2]
        unfold f_X12_world_42
        rw [e_bf, bd1_e, if_pos rfl, if_pos (show (px_u M 73 0 0) 73 27 = 4 from h2.2)]
    · have hne : ¬ nI nw = 4 := nI_eq' (b := 4) (by omega) (by decide) e4
      have hsn := hs n (Nat.le_refl _)
      have hlt : ∀ k q, sh k = some q → k ≠ n := fun k q e x => by rw [x, hsn] at e; cases e
      obtain ⟨Mc, hMc⟩ : ∃ Mc, Mc = px_u (px_u (px_u (px_u (px_c M n (fun _ => 0)) n 0 p1) n 1 p2) n 2 p3) 14 5 (nI (nw + 1)) := ⟨_, rfl⟩
      obtain ⟨M2, hM2⟩ : ∃ M2, M2 = px_u (px_u (px_u (px_u (px_u Mc 73 0 0) 90 nw p1) 91 nw p2) 92 nw p3) 73 27 (nI (nw + 1)) := ⟨_, rfl⟩
      have hr : ∀ c j, c ≠ n → ¬ (c = 14 ∧ j = 5) → ¬ (c = 73 ∧ j = 0) → ¬ (c = 73 ∧ j = 27) → ¬ (90 ≤ c ∧ c ≤ 92 ∧ j = nw) → M2 c j = M c j := by
        intro c j q1 q2 q3 q4 q5
        rw [hM2, hMc]
        simp (disch := omega) only [pu_n]
        rw [px_c_ne _ _ q1]
      obtain ⟨R1, hR1⟩ : ∃ R1, R1 = px_u (px_c R n (fun _ => none)) 15 nw (some n) := ⟨_, rfl⟩
      have hrr : ∀ c j, c ≠ n → ¬ (c = 15 ∧ j = nw) → R1 c j = R c j := by
        intro c j q1 q2
        rw [hR1, pu_n q2, px_c_ne _ _ q1]
      refine ⟨nI nw, px_c sh n (some (10, 0)), Mc, px_c L n (fun _ => 0), R1, n + 1, M2, ?_, ?_, ?_, ?_, Or.inr ⟨rfl, rfl⟩, ?_, ?_, ?_, ?_⟩
      · rw [(hg M).1]
        unfold f_X11_world_39 f_X9_addWorld f_X10_init
        have e61 : (px_u (px_u (px_u (px_c M n (fun _ => 0)) n 0 p1) n 1 p2) n 2 p3) 14 5 = nI nw := by
          simp (disch := omega) only [pu_n]
          rw [px_c_ne _ _ (by omega)]; exact h2.1
        have hkn : hk (px_c sh n (some (10, 0))) n 10 = true := hk_t (ln := 0) (px_c_in _ _ _)
        simp only [nm_u, h2.1, if_neg hne, ok_t hkn, bd1_e, ok_t (ix_k (show nw < 4 by omega) (by decide : 4 < 2 ^ 31)), nI_clamp (show nw < 2 ^ 31 by omega), e61, nI_1, hMc, hR1]
      · have e9a : (px_u Mc 73 0 0) 73 27 = nI nw := by
          rw [hMc]
          simp (disch := omega) only [pu_n]
          rw [px_c_ne _ _ (by omega)]; exact h2.2
        rw [(hg Mc).2]
        unfold f_X12_world_42
        simp (disch := omega) only [nm_u, e_bf, bd1_e, if_true, e9a, if_neg hne, pu_n (a := 73) (b := 27) (c := 90), pu_n (a := 73) (b := 27) (c := 91), pu_n (a := 73) (b := 27) (c := 92), ok_t (ix_k (show nw < 4 by omega) (by decide : 4 < 2 ^ 31)), nI_clamp (show nw < 2 ^ 31 by omega), nI_1, px_u_in, nI_pred, hM2]
      · rw [hM2]; simp (disch := omega) only [pu_n]; exact px_u_in _ _ _ _
      · refine ⟨?_, kp.rf.c (md_n hn hsn), by rw [hR1]; exact (kp.rf.c (md_n hn hsn)).u 3 rfl (by decide)⟩
        rw [hM2, hMc]
        have hn0 := md_n hn hsn
        exact (((((((((kp.rf.c hn0).u 0 (hn0 0) (by decide)).u 0 (hn0 1) (by decide)).u 0 (hn0 2) (by decide)).u 3 rfl (by decide)).u 0 rfl (by decide)).u 3 rfl (by decide)).u 3 rfl (by decide)).u 3 rfl (by decide)).u 3 rfl (by decide)
      · have b1 : ∀ w, w < nw → wa w ≠ n := fun w hw => hlt _ _ (h3 w hw).1.2.1
        have b2 : ∀ w, w < nw → (fun i => if i = nw then n else wa i) w = wa w := fun w hw => if_neg (by omega)
        have b3 : ∀ w, w < nw → R1 (wa w) 3 = R (wa w) 3 := fun w hw => hrr _ 3 (b1 w hw) (by have := (h3 w hw).1.2.2; omega)
        refine ⟨nw + 1, fun i => if i = nw then n else wa i, ch, ly, ⟨by omega, ⟨?_, by rw [hM2, px_u_in]⟩, fun w hw => ?_, fun v w hv hw q => ?_, fun v w hv hw e q1 q2 => ?_⟩, by omega, fun w hw => ⟨b2 w hw, b3 w hw⟩⟩
        · rw [hM2, hMc]; simp (disch := omega) only [pu_n, px_u_in]
        · by_cases e : w = nw
          · subst e
            unfold WorI
            simp only [if_true]
            obtain ⟨wr, x1, x2⟩ := nI_of2 (M := 255) (n := 255) (by decide) (Int32.not_lt.mpr hc.1.1) hc.1.2
            obtain ⟨an, y1, y2⟩ := nI_of2 (M := 71) (n := 71) (by decide) (Int32.not_lt.mpr hc.2.1.1) hc.2.1.2
            obtain ⟨ws, z1, z2⟩ := nI_of2 (M := 10) (n := 10) (by decide) (Int32.not_lt.mpr hc.2.2.1) hc.2.2.2
            refine ⟨⟨by rw [hR1, px_u_in], px_c_in _ _ _, hn⟩, ⟨?_, ?_, ?_⟩, wr, an, ws, ⟨by omega, by omega, by omega⟩, ⟨?_, ?_, ?_⟩, Or.inl ?_⟩
            · rw [hM2, hMc]; simp (disch := omega) only [pu_n, px_u_in]
            · rw [hM2, hMc]; simp (disch := omega) only [pu_n, px_u_in]
            · rw [hM2, hMc]; simp (disch := omega) only [pu_n, px_u_in]
            · rw [hM2, hMc]; simp (disch := omega) only [pu_n, px_u_in]; exact x2
            · rw [hM2, hMc]; simp (disch := omega) only [pu_n, px_u_in]; exact y2
            · rw [hM2, hMc]; simp (disch := omega) only [pu_n, px_u_in]; exact z2
            · rw [hR1, pu_n (by omega), px_c_in]
          · have hw2 : w < nw := by omega
            obtain ⟨⟨k1, k2, k3⟩, k4, wr, an, ws, k5, k6, k7⟩ := h3 w hw2
            have a1 := b1 w hw2
            unfold WorI
            simp only [if_neg e]
            rw [hr _ 0 a1 (by omega) (by omega) (by omega) (by omega), hr _ 1 a1 (by omega) (by omega) (by omega) (by omega), hr _ 2 a1 (by omega) (by omega) (by omega) (by omega), hr 90 w (by omega) (by omega) (by omega) (by omega) (by omega), hr 91 w (by omega) (by omega) (by omega) (by omega) (by omega), hr 92 w (by omega) (by omega) (by omega) (by omega) (by omega), hrr 15 w (by omega) (by omega), hrr _ 3 a1 (by omega)]
            refine ⟨⟨k1, by rw [px_c_ne _ _ a1]; exact k2, k3⟩, k4, wr, an, ws, k5, k6, ?_⟩
            rcases k7 with k7 | ⟨⟨c1, c2, c3⟩, ⟨l1, l2, l3⟩, c4, c5⟩
            · exact Or.inl k7
            · right
              have a2 := hlt _ _ c2
              have a3 := hlt _ _ l2
              rw [hr _ 0 a2 (by omega) (by omega) (by omega) (by omega), hr _ 1 a2 (by omega) (by omega) (by omega) (by omega), hr _ 2 a2 (by omega) (by omega) (by omega) (by omega), hrr _ 3 a2 (by omega), px_c_ne _ _ a2, px_c_ne _ _ a3, px_c_ne _ _ a3]
              exact ⟨⟨c1, c2, c3⟩, ⟨l1, l2, l3⟩, c4, c5⟩
        · by_cases e1 : v = nw <;> by_cases e2 : w = nw
          · omega
          · simp only [e1, if_true, if_neg e2] at q
            exact absurd q.symm (b1 w (by omega))
          · simp only [e2, if_true, if_neg e1] at q
            exact absurd q (b1 v (by omega))
          · simp only [if_neg e1, if_neg e2] at q
            exact h4 v w (by omega) (by omega) q
        · have hnn : R1 n 3 = none := by rw [hR1, pu_n (by omega), px_c_in]
          by_cases e1 : v = nw
          · simp only [e1, if_true] at q1
            exact absurd hnn q1
          · by_cases e2 : w = nw
            · simp only [e2, if_true] at q2
              exact absurd hnn q2
            · simp only [if_neg e1] at q1
              simp only [if_neg e2] at q2
              rw [b3 v (by omega)] at q1
              rw [b3 w (by omega)] at q2
              exact h5 v w (by omega) (by omega) e q1 q2
      · obtain ⟨g1, g2, g3, g4, g5⟩ := hV
        refine ⟨nw + 1, ⟨by omega, g1.2⟩, ?_, ?_, fun k hk => ?_, fun e q1 q2 => ?_⟩
        · refine ⟨by rw [hM2, hMc]; simp (disch := omega) only [pu_n, px_u_in], by rw [hM2, px_u_in], ?_⟩
          rw [hr 14 0 (by omega) (by omega) (by omega) (by omega) (by omega), hr 14 1 (by omega) (by omega) (by omega) (by omega) (by omega), hr 14 2 (by omega) (by omega) (by omega) (by omega) (by omega), hr 14 8 (by omega) (by omega) (by omega) (by omega) (by omega), hr 73 24 (by omega) (by omega) (by omega) (by omega) (by omega), hr 73 25 (by omega) (by omega) (by omega) (by omega) (by omega), hr 73 26 (by omega) (by omega) (by omega) (by omega) (by omega), hr 73 41 (by omega) (by omega) (by omega) (by omega) (by omega)]
          exact g2.2.2
        · rw [hr 14 3 (by omega) (by omega) (by omega) (by omega) (by omega), hr 73 28 (by omega) (by omega) (by omega) (by omega) (by omega)]
          refine ⟨g3.1, ?_⟩
          rcases g3.2 with q | ⟨g, q1, q2⟩
          · exact Or.inl q
          · exact Or.inr ⟨g, by omega, q2⟩
        · rw [hr 16 k (by omega) (by omega) (by omega) (by omega) (by omega), hr 17 k (by omega) (by omega) (by omega) (by omega) (by omega), hr 179 k (by omega) (by omega) (by omega) (by omega) (by omega), hr 180 k (by omega) (by omega) (by omega) (by omega) (by omega)]
          exact g4 k hk
        · rw [hr 18 _ (by omega) (by omega) (by omega) (by omega) (by omega), hr 18 _ (by omega) (by omega) (by omega) (by omega) (by omega), hr 18 _ (by omega) (by omega) (by omega) (by omega) (by omega), hr 18 _ (by omega) (by omega) (by omega) (by omega) (by omega), hr 181 _ (by omega) (by omega) (by omega) (by omega) (by omega), hr 182 _ (by omega) (by omega) (by omega) (by omega) (by omega), hr 183 _ (by omega) (by omega) (by omega) (by omega) (by omega), hr 184 _ (by omega) (by omega) (by omega) (by omega) (by omega)]
          exact g5 e q1 q2
      · intro k
        exact hr 16 k (by omega) (by omega) (by omega) (by omega) (by omega)
      · exact hr 14 8 (by omega) (by omega) (by omega) (by omega) (by omega)
  · right
    have hb : f_X12_world_37 (px_u M 73 0 0) p1 p2 p3 = some (0, px_t M 1) := by
      unfold f_X12_world_37 f_X12_world_42
      rw [e_bt (by decide), bd1_e]; rfl
    unfold f_X11_world f_X12_world f_X11_world_35 f_X11_world_36
    by_cases q1 : 0 ≤ p1 ∧ p1 ≤ 255 <;> by_cases q2 : 0 ≤ p2 ∧ p2 ≤ 71 <;> by_cases q3 : 0 ≤ p3 ∧ p3 ≤ 10
    · exact absurd ⟨q1, q2, q3⟩ hc
    all_goals simp [e_within, e_in, bd1_e, nm_u, bI_0, q1, q2, q3, hb]
end WORLD
