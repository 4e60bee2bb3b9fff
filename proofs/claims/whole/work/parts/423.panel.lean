/-! panel and flap -/
theorem kp.c {α : Type} {sh : px_Sh} {ks : List Nat} {f g : Nat → Nat → α} (h : kp sh ks f g) {n : Nat} {x : Nat → α} (e : ∀ j, md sh n j = 0) : kp sh ks f (px_c g n x) := by
  intro a b hn
  by_cases q : a = n
  · rw [q, e] at hn
    exact absurd List.mem_cons_self hn
  · rw [px_c_ne _ _ q]; exact h a b hn
theorem md_n {sh : px_Sh} {n : Nat} (h : 220 ≤ n) (hs : sh n = none) (j : Nat) : md sh n j = 0 := by rw [md_d h, hs]; rfl
section PANEL
variable {sh : px_Sh} {M M' : px_M} {L : px_L} {R : px_R} {n np nf : Nat} {pa fp : Nat → Nat}
set_option maxHeartbeats 1000000 in
theorem p_panel (hI : Isail sh M R) (hn : 220 ≤ n) (hs : sh n = none) (p1 p2 p3 p4 p5 : Int32) :
    (∃ r sh1 M1 L1 R1 n1 M2, f_X11_panel sh M L R n p1 p2 p3 p4 p5 = some (.inl (r, sh1, M1, L1, R1, n1)) ∧ f_X12_panel M1 p1 p2 p3 p4 p5 = some (r, M2) ∧ M2 73 0 = 0 ∧ (kp sh [2] M M2 ∧ kp sh [] L L1 ∧ kp sh [2] R R1) ∧ ((sh1 = sh ∧ n1 = n) ∨ (sh1 = px_c sh n (some (5, 0)) ∧ n1 = n + 1)) ∧ Isail sh1 M2 R1 ∧ (∀ c j, M 6 1 = nI c → c ≤ 16 → M2 6 1 = nI j → j ≤ 16 → c ≤ j ∧ ∀ i, M2 84 i = M 84 i)) ∨ (f_X11_panel sh M L R n p1 p2 p3 p4 p5 = some (.inr 0) ∧ f_X12_panel M p1 p2 p3 p4 p5 = some (0, px_t M 1)) := by
  obtain ⟨np, nf, pa, fp, h⟩ := hI
  have h16 := h.1.1
  have hg : (∀ M', f_X11_panel sh M' L R n p1 p2 p3 p4 p5 = bd1 (f_X11_panel_37 sh M' L R n p1 p2 p3 p4 p5) (fun e => some (.inl e)) ∧ f_X12_panel M' p1 p2 p3 p4 p5 = f_X12_panel_76 (px_u M' 73 0 0) p1 p2 p3 p4 p5 0) ∧ (1 ≤ p3 ∧ p3 ≤ 1000) ∨ (f_X11_panel sh M L R n p1 p2 p3 p4 p5 = some (.inr 0) ∧ f_X12_panel M p1 p2 p3 p4 p5 = some (0, px_t M 1)) := by
    have hb : f_X12_panel_71 (px_u M 73 0 0) p1 p2 p3 p4 p5 = some (0, px_t M 1) := by
      unfold f_X12_panel_71 f_X12_panel_76
      rw [e_bt (by decide), bd1_e]; rfl
    by_cases h1 : -20 ≤ p1 ∧ p1 ≤ 20 <;> by_cases h2 : -20 ≤ p2 ∧ p2 ≤ 20 <;> by_cases h3 : 1 ≤ p3 ∧ p3 ≤ 1000 <;> by_cases h4 : 0 ≤ p4 ∧ p4 ≤ 100 <;> by_cases h5 : 0 ≤ p5 ∧ p5 ≤ 100 <;> by_cases h6 : p4 + p5 ≤ 100 <;>
    first
    | (left; refine ⟨fun M' => ?_, h3⟩; unfold f_X11_panel f_X12_panel f_X11_panel_34; simp [e_isSpot, e_isCoat, e_within, e_in, bd1_e, nm_u, bI_0, h1, h2, h3, h4, h5, h6]; done)
    | (right; unfold f_X11_panel f_X12_panel f_X11_panel_33 f_X11_panel_34; simp [e_isSpot, e_isCoat, e_within, e_in, bd1_e, nm_u, bI_0, h1, h2, h3, h4, h5, h6, hb]; done)
  rcases hg with ⟨hg, hb⟩ | hg
  · left
    by_cases e16 : np = 16
    · subst e16
      refine ⟨-1, sh, M, L, R, n, px_u M 73 0 0, ?_, ?_, px_u_in _ _ _ _, ⟨px_0_kp _ _, kp.rf, kp.rf⟩, Or.inl ⟨rfl, rfl⟩, ⟨16, nf, pa, fp, h.u0 0⟩, fun c j q1 q2 q3 q4 => ?_⟩
      · rw [(hg M).1]
        unfold f_X11_panel_37 f_X8_addPanel
        rw [if_pos (by rw [h.2.1.1]; rfl)]; rfl
      · rw [(hg M).2]
        unfold f_X12_panel_76
        rw [e_bf, bd1_e, if_pos rfl, if_pos (show (px_u M 73 0 0) 73 9 = 16 from h.2.1.2.1)]
      · rw [show (px_u M 73 0 0) 6 1 = M 6 1 from rfl, q1] at q3
        have := (nI_eq (by omega) (by omega)).mp q3
        exact ⟨by omega, fun _ => rfl⟩
    · have hnp : np < 16 := by omega
      have hpn : ∀ i, i < np → pa i ≠ n := fun i hi q => by have := (h.2.2.1 i hi).1.2.1; rw [q, hs] at this; cases this
      have hpg : ∀ i, i < np → 220 ≤ pa i := fun i hi => (h.2.2.1 i hi).1.2.2
      have hne : ¬ nI np = 16 := nI_eq' (b := 16) (by omega) (by decide) e16
      obtain ⟨Mc, hMc⟩ : ∃ Mc, Mc = px_u (px_u (px_u (px_u (px_u (px_u (px_c M n (fun _ => 0)) n 0 p1) n 1 p2) n 2 p3) n 3 p4) n 4 p5) 6 1 (nI (np + 1)) := ⟨_, rfl⟩
      obtain ⟨M2, hM2⟩ : ∃ M2, M2 = px_u (px_u (px_u (px_u (px_u (px_u (px_u Mc 73 0 0) 79 np p1) 80 np p2) 81 np p3) 82 np p4) 83 np p5) 73 9 (nI (np + 1)) := ⟨_, rfl⟩
      have hr : ∀ c j, c ≠ n → ¬ (c = 6 ∧ j = 1) → ¬ (c = 73 ∧ j = 0) → ¬ (c = 73 ∧ j = 9) → ¬ (79 ≤ c ∧ c ≤ 83 ∧ j = np) → M2 c j = M c j := by
        intro c j q1 q2 q3 q4 q5
        rw [hM2, hMc]
        simp (disch := omega) only [pu_n]
        rw [px_c_ne _ _ q1]
      have hc : ∀ j, 5 ≤ j → M2 n j = 0 := by
        intro j hj
        rw [hM2, hMc]
        simp (disch := omega) only [pu_n]
        rw [px_c_in]
      refine ⟨nI np, px_c sh n (some (5, 0)), Mc, px_c L n (fun _ => 0), px_u (px_c R n (fun _ => none)) 7 np (some n), n + 1, M2, ?_, ?_, ?_, ?_, Or.inr ⟨rfl, rfl⟩, ?_, ?_⟩
      · rw [(hg M).1]
        unfold f_X11_panel_37 f_X8_addPanel f_X5_init
        have e61 : (px_u (px_u (px_u (px_u (px_u (px_c M n (fun _ => 0)) n 0 p1) n 1 p2) n 2 p3) n 3 p4) n 4 p5) 6 1 = nI np := by
          simp (disch := omega) only [pu_n]
          rw [px_c_ne _ _ (by omega)]; exact h.2.1.1
        have hkn : hk (px_c sh n (some (5, 0))) n 5 = true := hk_t (ln := 0) (px_c_in _ _ _)
        simp only [nm_u, h.2.1.1, if_neg hne, ok_t hkn, bd1_e, ok_t (ix_k hnp (by decide : 16 < 2 ^ 31)), nI_clamp (show np < 2 ^ 31 by omega), e61, nI_1, hMc]
      · have e9 : ∀ v1 v2 v3 v4 v5 : Int32, (px_u (px_u (px_u (px_u (px_u (px_u Mc 73 0 0) 79 np v1) 80 np v2) 81 np v3) 82 np v4) 83 np v5) 73 9 = nI np := by
          intro v1 v2 v3 v4 v5
          rw [hMc]
          simp (disch := omega) only [pu_n]
          rw [px_c_ne _ _ (by omega)]; exact h.2.1.2.1
        have e9a : (px_u Mc 73 0 0) 73 9 = nI np := by rw [← e9 0 0 0 0 0]; simp (disch := omega) only [pu_n]
        rw [(hg Mc).2]
        unfold f_X12_panel_76
        rw [e_bf, bd1_e, if_pos rfl, if_neg (show ¬ (px_u Mc 73 0 0) 73 9 = 16 by rw [e9a]; exact hne)]
        simp (disch := omega) only [nm_u, pu_n (a := 73) (b := 9) (c := 79), pu_n (a := 73) (b := 9) (c := 80), pu_n (a := 73) (b := 9) (c := 81), pu_n (a := 73) (b := 9) (c := 82), pu_n (a := 73) (b := 9) (c := 83), e9a, ok_t (ix_k hnp (by decide : 16 < 2 ^ 31)), nI_clamp (show np < 2 ^ 31 by omega), nI_1, px_u_in, nI_pred, hM2]
      · rw [hM2]
        simp (disch := omega) only [pu_n]
        exact px_u_in _ _ _ _
      · refine ⟨?_, kp.rf.c (md_n hn hs), (kp.rf.c (md_n hn hs)).u 2 rfl (by decide)⟩
        rw [hM2, hMc]
        have hn0 := md_n hn hs
        exact (((((((((((((kp.rf.c hn0).u 0 (hn0 0) (by decide)).u 0 (hn0 1) (by decide)).u 0 (hn0 2) (by decide)).u 0 (hn0 3) (by decide)).u 0 (hn0 4) (by decide)).u 2 rfl (by decide)).u 0 rfl (by decide)).u 2 rfl (by decide)).u 2 rfl (by decide)).u 2 rfl (by decide)).u 2 rfl (by decide)).u 2 rfl (by decide)).u 2 rfl (by decide)
      · obtain ⟨h1, h2, h3, h4, h5, h6, h7, h8, h9⟩ := h
        have hp1 : ∀ i, i < np → (fun i => if i = np then n else pa i) i = pa i := fun i hi => if_neg (by omega)
        have hp2 : (fun i => if i = np then n else pa i) np = n := if_pos rfl
        refine ⟨np + 1, nf, fun i => if i = np then n else pa i, fp, ⟨by omega, h1.2⟩, ?_, fun i hi => ?_, fun i j hi hj q => ?_, fun f hf => ?_, h6, fun i hi q => ?_, fun i hi => ?_, fun f hf => ?_⟩
        · rw [hr 6 3 (by omega) (by omega) (by omega) (by omega) (by omega), hr 6 4 (by omega) (by omega) (by omega) (by omega) (by omega), hr 6 5 (by omega) (by omega) (by omega) (by omega) (by omega), hr 73 10 (by omega) (by omega) (by omega) (by omega) (by omega), hr 73 11 (by omega) (by omega) (by omega) (by omega) (by omega), hr 73 12 (by omega) (by omega) (by omega) (by omega) (by omega)]
          refine ⟨?_, ?_, h2.2.2⟩
          · rw [hM2, hMc]
            simp (disch := omega) only [pu_n, px_u_in]
          · rw [hM2, px_u_in]
        · by_cases e : i = np
          · subst e
            unfold PanI
            simp only [if_true]
            refine ⟨⟨px_u_in _ _ _ _, px_c_in _ _ _, hn⟩, ⟨?_, ?_, ?_, ?_, ?_, ?_, ?_, ?_⟩, ?_, ?_⟩
            iterate 5 (rw [hM2, hMc]; simp (disch := omega) only [pu_n, px_u_in])
            · rw [hc 5 (by decide), hr 86 i (by omega) (by omega) (by omega) (by omega) (by omega), (h8 i (Nat.le_refl _)).2.2]
            · rw [hc 6 (by decide), hr 84 i (by omega) (by omega) (by omega) (by omega) (by omega), (h8 i (Nat.le_refl _)).1]
            · rw [hc 7 (by decide), hr 85 i (by omega) (by omega) (by omega) (by omega) (by omega), (h8 i (Nat.le_refl _)).2.1]
            · rw [hr 86 i (by omega) (by omega) (by omega) (by omega) (by omega), (h8 i (Nat.le_refl _)).2.2]; rfl
            · rw [hM2]
              simp (disch := omega) only [pu_n, px_u_in]
              exact hb
          · have hi2 : i < np := by omega
            have a1 := hpn i hi2
            have a2 := hpg i hi2
            obtain ⟨⟨k1, k2, k3⟩, k4, k5⟩ := h3 i hi2
            unfold PanI
            simp only [if_neg e]
            rw [hr 79 i (by omega) (by omega) (by omega) (by omega) (by omega), hr 80 i (by omega) (by omega) (by omega) (by omega) (by omega), hr 81 i (by omega) (by omega) (by omega) (by omega) (by omega), hr 82 i (by omega) (by omega) (by omega) (by omega) (by omega), hr 83 i (by omega) (by omega) (by omega) (by omega) (by omega), hr 84 i (by omega) (by omega) (by omega) (by omega) (by omega), hr 85 i (by omega) (by omega) (by omega) (by omega) (by omega), hr 86 i (by omega) (by omega) (by omega) (by omega) (by omega), hr (pa i) 0 a1 (by omega) (by omega) (by omega) (by omega), hr (pa i) 1 a1 (by omega) (by omega) (by omega) (by omega), hr (pa i) 2 a1 (by omega) (by omega) (by omega) (by omega), hr (pa i) 3 a1 (by omega) (by omega) (by omega) (by omega), hr (pa i) 4 a1 (by omega) (by omega) (by omega) (by omega), hr (pa i) 5 a1 (by omega) (by omega) (by omega) (by omega), hr (pa i) 6 a1 (by omega) (by omega) (by omega) (by omega), hr (pa i) 7 a1 (by omega) (by omega) (by omega) (by omega)]
            refine ⟨⟨?_, by rw [px_c_ne _ _ a1]; exact k2, k3⟩, k4, k5⟩
            rw [pu_n (by omega), px_c_ne _ _ (by omega)]; exact k1
        · by_cases e1 : i = np <;> by_cases e2 : j = np
          · omega
          · simp only [e1, if_true, if_neg e2] at q
            exact absurd q.symm (hpn j (by omega))
          · simp only [e2, if_true, if_neg e1] at q
            exact absurd q (hpn i (by omega))
          · simp only [if_neg e1, if_neg e2] at q
            exact h4 i j (by omega) (by omega) q
        · have hfl := h5 f hf
          have a0 := hfl.1.1
          have a1 := hpn _ a0
          have a2 := hpg _ a0
          unfold FlapI at hfl ⊢
          simp only [if_neg (show ¬ fp f = np by omega)]
          rw [hr 87 f (by omega) (by omega) (by omega) (by omega) (by omega), hr 88 f (by omega) (by omega) (by omega) (by omega) (by omega), hr 89 f (by omega) (by omega) (by omega) (by omega) (by omega), hr _ 8 a1 (by omega) (by omega) (by omega) (by omega), hr _ 9 a1 (by omega) (by omega) (by omega) (by omega), hr _ 10 a1 (by omega) (by omega) (by omega) (by omega)]
          refine ⟨⟨by omega, ?_, hfl.1.2.2⟩, hfl.2⟩
          rw [pu_n (by omega), px_c_ne _ _ (by omega)]; exact hfl.1.2.1
        · by_cases e : i = np
          · simp only [e, if_true]
            exact ⟨hc 8 (by decide), hc 9 (by decide), hc 10 (by decide)⟩
          · have a1 := hpn i (by omega)
            have a2 := hpg i (by omega)
            simp only [if_neg e]
            rw [hr _ 8 a1 (by omega) (by omega) (by omega) (by omega), hr _ 9 a1 (by omega) (by omega) (by omega) (by omega), hr _ 10 a1 (by omega) (by omega) (by omega) (by omega)]
            exact h7 i (by omega) q
        · rw [hr 84 i (by omega) (by omega) (by omega) (by omega) (by omega), hr 85 i (by omega) (by omega) (by omega) (by omega) (by omega), hr 86 i (by omega) (by omega) (by omega) (by omega) (by omega)]
          exact h8 i (by omega)
        · rw [hr 88 f (by omega) (by omega) (by omega) (by omega) (by omega), hr 89 f (by omega) (by omega) (by omega) (by omega) (by omega)]
          exact h9 f hf
      · intro c j q1 q2 q3 q4
        rw [h.2.1.1] at q1
        have := (nI_eq (by omega) (by omega)).mp q1
        have e2 : M2 6 1 = nI (np + 1) := by
          rw [hM2, hMc]
          simp (disch := omega) only [pu_n, px_u_in]
        rw [e2] at q3
        have := (nI_eq (by omega) (by omega)).mp q3
        exact ⟨by omega, fun i => hr 84 i (by omega) (by omega) (by omega) (by omega) (by omega)⟩
  · exact Or.inr hg
theorem p_flap (hI : Isail sh M R) (p1 : Int32) :
    (∃ r M1 R1 M2, f_X11_flap sh M R p1 = some (.inl (r, M1, R1)) ∧ f_X12_flap M1 p1 = some (r, M2) ∧ M2 73 0 = 0 ∧ kp sh [2] M M2 ∧ kp sh [2] R R1 ∧ Isail sh M2 R1 ∧ (M2 6 1 = M 6 1 ∧ ∀ j, M2 84 j = M 84 j)) ∨ (f_X11_flap sh M R p1 = some (.inr 3) ∧ f_X12_flap M p1 = some (0, px_t M 1)) := by
  obtain ⟨np, nf, pa, fp, h⟩ := hI
  have h16 := h.1.1
  have h4' := h.1.2
  rcases rng p1 (k := np) (by omega) with ⟨k, hk, rfl, w1, w2⟩ | ⟨-, w1, w2⟩
  · left
    have hp := h.2.2.1 k hk
    have hpk := hp.1.2.2
    by_cases e4 : nf = 4
    · subst e4
      refine ⟨-1, M, R, px_u M 73 0 0, ?_, ?_, px_u_in _ _ _ _, px_0_kp _ _, kp.rf, ⟨np, 4, pa, fp, h.u0 0⟩, ⟨rfl, fun _ => rfl⟩⟩
      · unfold f_X11_flap f_X11_flap_11 f_X8_makeFlap f_X8_hasPanel
        simp only [h.2.1.1, w1, bd1_e, ok_t zb1, if_neg (show ¬ (1 : Int32) = 0 by decide), if_pos (show M 6 3 = 4 from h.2.1.2.2.1)]
      · have e9 : (px_u M 73 0 0) 73 9 = nI np := h.2.1.2.1
        unfold f_X12_flap f_X12_flap_25
        simp only [nm_u, e9, w2, bd1_e, if_neg (show ¬ (1 : Int32) = 0 by decide), e_bf, if_true, if_pos (show (px_u M 73 0 0) 73 10 = 4 from h.2.1.2.2.2.1)]
    · have hne : ¬ nI nf = 4 := nI_eq' (b := 4) (by omega) (by decide) e4
      have hfo := fun (M' : px_M) (e : M' 73 10 = nI nf) (e2 : ∀ f, M' 87 f = M 87 f) => m_flapOf (M := M') h4' e fp (fun f hf => ⟨by rw [e2]; exact (h.2.2.2.2.1 f hf).1.2.2, by have := (h.2.2.2.2.1 f hf).1.1; omega⟩) (i := k) (by omega)
      have hfl : (M (pa k) 8 = 0 ∧ ∀ f, f < nf → fp f ≠ k) ∨ (M (pa k) 8 = 1 ∧ ∃ f, f < nf ∧ fp f = k) := by
        rcases hfo M h.2.1.2.2.2.1 (fun _ => rfl) with ⟨q1, q2⟩ | ⟨f, q1, q2, -⟩
        · exact Or.inl ⟨(h.2.2.2.2.2.2.1 k hk q2).1, q2⟩
        · exact Or.inr ⟨by rw [← q2]; exact (h.2.2.2.2.1 f q1).2.1.1, f, q1, q2⟩
      rcases hfl with ⟨q8, qn⟩ | ⟨q8, f, qf1, qf2⟩
      · obtain ⟨Mc, hMc⟩ : ∃ Mc, Mc = px_u (px_u M (pa k) 8 1) 6 3 (nI (nf + 1)) := ⟨_, rfl⟩
        obtain ⟨M2, hM2⟩ : ∃ M2, M2 = px_u (px_u (px_u Mc 73 0 0) 87 nf (nI k)) 73 10 (nI (nf + 1)) := ⟨_, rfl⟩
        have hr : ∀ c j, ¬ (c = pa k ∧ j = 8) → ¬ (c = 6 ∧ j = 3) → ¬ (c = 73 ∧ j = 0) → ¬ (c = 73 ∧ j = 10) → ¬ (c = 87 ∧ j = nf) → M2 c j = M c j := by
          intro c j q1 q2 q3 q4 q5
          rw [hM2, hMc]
          simp (disch := omega) only [pu_n]
        refine ⟨nI nf, Mc, px_u R 8 nf (some (pa k)), M2, ?_, ?_, ?_, ?_, kp.rf.u 2 rfl (by decide), ?_, ⟨hr 6 1 (by omega) (by omega) (by omega) (by omega) (by omega), fun j => hr 84 j (by omega) (by omega) (by omega) (by omega) (by omega)⟩⟩
        · unfold f_X11_flap f_X11_flap_11 f_X8_makeFlap f_X8_hasPanel
          have e63 : (px_u M (pa k) 8 1) 6 3 = nI nf := by
            rw [pu_n (by omega)]; exact h.2.1.2.2.1
          simp only [h.2.1.1, w1, bd1_e, ok_t zb1, if_neg (show ¬ (1 : Int32) = 0 by decide), h.2.1.2.2.1, if_neg hne, ok_t (ix_k (show k < 16 by omega) (by decide : 16 < 2 ^ 31)), nI_clamp (show k < 2 ^ 31 by omega), hp.1.1, ok_t (hk_t hp.1.2.1), q8, if_true, nm_u, e63, ok_t (ix_k (show nf < 4 by omega) (by decide : 4 < 2 ^ 31)), nI_clamp (show nf < 2 ^ 31 by omega), nI_1, hMc]
        · have e9 : (px_u Mc 73 0 0) 73 9 = nI np := by rw [hMc]; simp (disch := omega) only [pu_n]; exact h.2.1.2.1
          have e10 : (px_u Mc 73 0 0) 73 10 = nI nf := by rw [hMc]; simp (disch := omega) only [pu_n]; exact h.2.1.2.2.2.1
          have hq := hfo (px_u Mc 73 0 0) e10 (fun f => by rw [hMc]; simp (disch := omega) only [pu_n])
          rcases hq with ⟨q1, -⟩ | ⟨f, a1, a2, -⟩
          · unfold f_X12_flap f_X12_flap_25
            simp (disch := omega) only [nm_u, e9, w2, bd1_e, if_neg (show ¬ (1 : Int32) = 0 by decide), e_bf, if_true, e10, if_neg hne, q1, ok_t (ix_k (show nf < 4 by omega) (by decide : 4 < 2 ^ 31)), nI_clamp (show nf < 2 ^ 31 by omega), pu_n (a := 73) (b := 10) (c := 87), nI_1, px_u_in, nI_pred, hM2]
          · exact absurd a2 (qn f a1)
        · rw [hM2]; simp (disch := omega) only [pu_n]; exact px_u_in _ _ _ _
        · rw [hM2, hMc]
          exact ((((kp.rf.u 2 (h.m5 hk 8) (by decide)).u 2 rfl (by decide)).u 0 rfl (by decide)).u 2 rfl (by decide)).u 2 rfl (by decide)
        · obtain ⟨h1, h2, h3, h4, h5, h6, h7, h8, h9⟩ := h
          have hg : ∀ i, i < np → 220 ≤ pa i := fun i hi => (h3 i hi).1.2.2
          refine ⟨np, nf + 1, pa, fun f => if f = nf then k else fp f, ⟨h1.1, by omega⟩, ?_, fun i hi => ?_, h4, fun f hf => ?_, fun f g hf hg2 q => ?_, fun i hi q => ?_, fun i hi => ?_, fun f hf => ?_⟩
          · rw [hr 6 1 (by omega) (by omega) (by omega) (by omega) (by omega), hr 6 4 (by omega) (by omega) (by omega) (by omega) (by omega), hr 6 5 (by omega) (by omega) (by omega) (by omega) (by omega), hr 73 9 (by omega) (by omega) (by omega) (by omega) (by omega), hr 73 11 (by omega) (by omega) (by omega) (by omega) (by omega), hr 73 12 (by omega) (by omega) (by omega) (by omega) (by omega)]
            refine ⟨h2.1, h2.2.1, ?_, ?_, h2.2.2.2.2⟩
            · rw [hM2, hMc]; simp (disch := omega) only [pu_n, px_u_in]
            · rw [hM2, px_u_in]
          · have a2 := hg i hi
            obtain ⟨⟨k1, k2, k3⟩, k4, k5⟩ := h3 i hi
            unfold PanI
            rw [hr 79 i (by omega) (by omega) (by omega) (by omega) (by omega), hr 80 i (by omega) (by omega) (by omega) (by omega) (by omega), hr 81 i (by omega) (by omega) (by omega) (by omega) (by omega), hr 82 i (by omega) (by omega) (by omega) (by omega) (by omega), hr 83 i (by omega) (by omega) (by omega) (by omega) (by omega), hr 84 i (by omega) (by omega) (by omega) (by omega) (by omega), hr 85 i (by omega) (by omega) (by omega) (by omega) (by omega), hr 86 i (by omega) (by omega) (by omega) (by omega) (by omega), hr (pa i) 0 (by omega) (by omega) (by omega) (by omega) (by omega), hr (pa i) 1 (by omega) (by omega) (by omega) (by omega) (by omega), hr (pa i) 2 (by omega) (by omega) (by omega) (by omega) (by omega), hr (pa i) 3 (by omega) (by omega) (by omega) (by omega) (by omega), hr (pa i) 4 (by omega) (by omega) (by omega) (by omega) (by omega), hr (pa i) 5 (by omega) (by omega) (by omega) (by omega) (by omega), hr (pa i) 6 (by omega) (by omega) (by omega) (by omega) (by omega), hr (pa i) 7 (by omega) (by omega) (by omega) (by omega) (by omega)]
            exact ⟨⟨by rw [pu_n (by omega)]; exact k1, k2, k3⟩, k4, k5⟩
          · by_cases e : f = nf
            · subst e
              unfold FlapI
              simp only [if_true]
              have hz := h7 k hk qn
              rw [hr 88 f (by omega) (by omega) (by omega) (by omega) (by omega), hr 89 f (by omega) (by omega) (by omega) (by omega) (by omega), hr (pa k) 9 (by omega) (by omega) (by omega) (by omega) (by omega), hr (pa k) 10 (by omega) (by omega) (by omega) (by omega) (by omega), (h9 f (Nat.le_refl _)).1, (h9 f (Nat.le_refl _)).2, hz.2.1, hz.2.2]
              refine ⟨⟨hk, px_u_in _ _ _ _, ?_⟩, ⟨?_, rfl, rfl⟩, rfl, by decide⟩
              · rw [hM2]; simp (disch := omega) only [pu_n, px_u_in]
              · rw [hM2, hMc]; simp (disch := omega) only [pu_n, px_u_in]
            · have hfl := h5 f (by omega)
              have a0 := hfl.1.1
              have a2 := hg _ a0
              have a3 : pa (fp f) ≠ pa k := fun q => qn f (by omega) (h4 _ _ a0 hk q)
              unfold FlapI at hfl ⊢
              simp only [if_neg e]
              rw [hr 87 f (by omega) (by omega) (by omega) (by omega) (by omega), hr 88 f (by omega) (by omega) (by omega) (by omega) (by omega), hr 89 f (by omega) (by omega) (by omega) (by omega) (by omega), hr _ 8 (by omega) (by omega) (by omega) (by omega) (by omega), hr _ 9 (by omega) (by omega) (by omega) (by omega) (by omega), hr _ 10 (by omega) (by omega) (by omega) (by omega) (by omega)]
              exact ⟨⟨a0, by rw [pu_n (by omega)]; exact hfl.1.2.1, hfl.1.2.2⟩, hfl.2⟩
          · by_cases e1 : f = nf <;> by_cases e2 : g = nf
            · omega
            · simp only [e1, if_true, if_neg e2] at q
              exact absurd q.symm (qn g (by omega))
            · simp only [e2, if_true, if_neg e1] at q
              exact absurd q (qn f (by omega))
            · simp only [if_neg e1, if_neg e2] at q
              exact h6 f g (by omega) (by omega) q
          · have a2 := hg i hi
            have a4 : pa i ≠ pa k := fun q2 => by
              have := h4 _ _ hi hk q2
              have := q nf (by omega)
              simp only [if_true] at this
              omega
            rw [hr _ 8 (by omega) (by omega) (by omega) (by omega) (by omega), hr _ 9 (by omega) (by omega) (by omega) (by omega) (by omega), hr _ 10 (by omega) (by omega) (by omega) (by omega) (by omega)]
            refine h7 i hi fun f hf => ?_
            have := q f (by omega)
            simp only [if_neg (show ¬ f = nf by omega)] at this
            exact this
          · rw [hr 84 i (by omega) (by omega) (by omega) (by omega) (by omega), hr 85 i (by omega) (by omega) (by omega) (by omega) (by omega), hr 86 i (by omega) (by omega) (by omega) (by omega) (by omega)]
            exact h8 i hi
          · rw [hr 88 f (by omega) (by omega) (by omega) (by omega) (by omega), hr 89 f (by omega) (by omega) (by omega) (by omega) (by omega)]
            exact h9 f (by omega)
      · refine ⟨-2, M, R, px_u M 73 0 0, ?_, ?_, px_u_in _ _ _ _, px_0_kp _ _, kp.rf, ⟨np, nf, pa, fp, h.u0 0⟩, ⟨rfl, fun _ => rfl⟩⟩
        · unfold f_X11_flap f_X11_flap_11 f_X8_makeFlap f_X8_hasPanel
          simp only [h.2.1.1, w1, bd1_e, ok_t zb1, if_neg (show ¬ (1 : Int32) = 0 by decide), h.2.1.2.2.1, if_neg hne, ok_t (ix_k (show k < 16 by omega) (by decide : 16 < 2 ^ 31)), nI_clamp (show k < 2 ^ 31 by omega), hp.1.1, ok_t (hk_t hp.1.2.1), q8]
        · have e9 : (px_u M 73 0 0) 73 9 = nI np := h.2.1.2.1
          have e10 : (px_u M 73 0 0) 73 10 = nI nf := h.2.1.2.2.2.1
          rcases hfo (px_u M 73 0 0) e10 (fun _ => rfl) with ⟨-, q2⟩ | ⟨g, q1, q2, q3⟩
          · exact absurd qf2 (q2 f qf1)
          · unfold f_X12_flap f_X12_flap_25
            have hg1 : ¬ nI g = -1 := fun q => by
              have := nI_pos' (n := g) (by omega)
              rw [q] at this; exact absurd this (by decide)
            simp only [nm_u, e9, w2, bd1_e, if_neg (show ¬ (1 : Int32) = 0 by decide), e_bf, if_true, e10, if_neg hne, q3, if_neg hg1]
  · right
    have e9 : (px_u M 73 0 0) 73 9 = nI np := h.2.1.2.1
    unfold f_X11_flap f_X12_flap f_X12_flap_25 f_X8_hasPanel
    simp only [h.2.1.1, nm_u, e9, w1, w2, bd1_e, ok_t zb0, if_true, e_bt (show ¬ (1 : Int32) = 0 by decide), if_neg (show ¬ (1 : Int32) = 0 by decide)]
    exact ⟨trivial, trivial⟩
end PANEL
