/-! trim: the call -/
section TRIM4
variable {sh : px_Sh} {M : px_M} {L : px_L} {R : px_R} {n np nf : Nat} {pa fp : Nat → Nat}
theorem nI5 : ∀ k, nI (5 ^ (k + 1)) = nI (5 ^ k) * 5 := fun k => by rw [Nat.pow_succ, ← pk_mul]; rfl
set_option maxHeartbeats 2000000 in
theorem p_trim (hI : Isail sh M R) (hS : SR sh R) (hn : 220 ≤ n) (hsn : sh n = none) (hsn1 : sh (n + 1) = none) (p1 p2 : Int32) :
    (∃ r M1 M2, f_X11_trim sh M R p1 p2 = some (.inl (r, M1)) ∧ f_X12_trim sh M1 L R n p1 p2 = some (r, px_c (px_c sh n (some (13, 4))) (n + 1) (some (13, 4)), M2, px_c (px_c L n (fun _ => 0)) (n + 1) (fun _ => 0), px_c (px_c R n (fun _ => none)) (n + 1) (fun _ => none), n + 1 + 1) ∧ M2 73 0 = 0 ∧ (M2 6 1 = M 6 1 ∧ ∀ j, M2 84 j = M 84 j) ∧ kp sh [2] M M2 ∧ Isail sh M2 R) ∨ (f_X11_trim sh M R p1 p2 = some (.inr 0) ∧ f_X12_trim sh M L R n p1 p2 = some (0, sh, px_t M 1, L, R, n)) := by
  obtain ⟨np, nf, pa, fp, h⟩ := hI
  have h4 := h.1.2
  by_cases hc : (-8 ≤ p1 ∧ p1 ≤ 8) ∧ (-1 ≤ p2 ∧ p2 ≤ 3)
  · left
    have hgc : f_X11_trim sh M R p1 p2 = bd1 (f_X11_trim_24 sh M R p1 p2) (fun e => some (.inl e)) := by
      unfold f_X11_trim f_X11_trim_21
      rw [e_isSlant, bI_t hc.1, bd1_e, if_neg (by decide), e_within, bI_t hc.2, bd1_e, if_neg (by decide), if_neg (by decide)]
    have hgm : ∀ M', f_X12_trim sh M' L R n p1 p2 = f_X12_trim_31 sh (px_u M' 73 0 0) L R n p1 p2 0 := by
      intro M'
      unfold f_X12_trim
      rw [nm_u, e_in, bI_t hc.1, bd1_e, if_neg (by decide), e_in, bI_t hc.2, bd1_e, if_neg (by decide)]
    have hp2 : p2 = -1 ∨ ∃ k, k < 4 ∧ p2 = nI k := by
      have a1 := Int32.le_iff_toInt_le.mp hc.2.1
      have a2 := Int32.le_iff_toInt_le.mp hc.2.2
      have b1 : (-1 : Int32).toInt = -1 := by decide
      have b2 : (3 : Int32).toInt = 3 := by decide
      by_cases q : p2 < 0
      · left
        have a3 := Int32.lt_iff_toInt_lt.mp q
        have b3 : (0 : Int32).toInt = 0 := by decide
        apply Int32.toInt_inj.mp
        omega
      · obtain ⟨k, k1, k2⟩ := nI_of q
        right
        refine ⟨k, ?_, k2⟩
        rw [k2, nI_toInt k1] at a2
        omega
    obtain ⟨S, hSd⟩ : ∃ S, S = fld (fun t => stpT M p1 fp nf np (dgt (szF M) nf t)) 0 (Tn (szF M) nf) (-1, fun _ => 0) := ⟨_, rfl⟩
    have hS2 : fld (fun v s => if mayB (stkF M) nf v = true then stpT M p1 fp nf np (dgt (fun _ => 5) nf v) s else s) 0 (5 ^ nf) (-1, fun _ => 0) = S := by
      rw [hSd, rows_eq (stk := stkF M) (szF_stk M) nf (stpT M p1 fp nf np)]
    -- the reference, from any memory that differs in the sail's scratch alone
    have href : ∀ M1, scrS M M1 → ∃ M2, f_X12_trim sh M1 L R n p1 p2 = some ((if p2 = -1 then S.1 else if nI nf ≤ p2 then -3 else S.2 p2.toNatClampNeg), px_c (px_c sh n (some (13, 4))) (n + 1) (some (13, 4)), M2, px_c (px_c L n (fun _ => 0)) (n + 1) (fun _ => 0), px_c (px_c R n (fun _ => none)) (n + 1) (fun _ => none), n + 1 + 1) ∧ M2 73 0 = 0 ∧ ∀ c j, c ≠ n → c ≠ n + 1 → ¬ (c = 73 ∧ j = 0) → M2 c j = M1 c j := by
      intro M1 hs1
      obtain ⟨shh, hshh⟩ : ∃ s, s = px_c (px_c sh n (some (13, 4))) (n + 1) (some (13, 4)) := ⟨_, rfl⟩
      obtain ⟨LL, hLL⟩ : ∃ s, s = px_c (px_c L n (fun _ => 0)) (n + 1) (fun _ => (0 : Int64)) := ⟨_, rfl⟩
      obtain ⟨RR, hRR⟩ : ∃ s : px_R, s = px_c (px_c R n (fun _ => none)) (n + 1) (fun _ => none) := ⟨_, rfl⟩
      have hs2 : shh (n + 1) = some (13, 4) := by rw [hshh]; exact px_c_in _ _ _
      have hs3 : shh n = some (13, 4) := by rw [hshh, px_c_ne _ _ (by omega)]; exact px_c_in _ _ _
      obtain ⟨Ma, hMa⟩ : ∃ Ma, Ma = px_c (px_c (px_u M1 73 0 0) n (fun _ => 0)) (n + 1) (fun _ => 0) := ⟨_, rfl⟩
      have ha : ∀ c j, c ≠ n → c ≠ n + 1 → ¬ (c = 73 ∧ j = 0) → Ma c j = M1 c j := by
        intro c j x1 x2 x3
        rw [hMa, px_c_ne _ _ x2, px_c_ne _ _ x1, pu_n x3]
      have f10 : M1 73 10 = nI nf := by rw [hs1 73 10 (by decide) (by decide) (by decide) (by decide) (by decide) (by omega)]; exact h.2.1.2.2.2.1
      -- what was
      have K1 := lpf_for (body := fun a : Int32 × Int32 × px_M => f_X12_trim_58 shh a.2.2 LL RR (n + 1 + 1) p1 p2 n (n + 1) a.1 (-1) a.2.1) (fun f (M' : px_M) => (nI (5 ^ f), nI f, M')) (fun f M' => px_u M' n f (M1 88 f))
        (fun k M' => (∀ c j, c ≠ n → M' c j = Ma c j) ∧ ∀ f, f < k → M' n f = M1 88 f) (fun M' => (nI (5 ^ nf), M')) nf
        (fun f M' hf hP => by
          obtain ⟨q1, q2⟩ := hP
          refine ⟨?_, fun c j q => by rw [pu_n (by omega)]; exact q1 c j q, fun g hg => ?_⟩
          · show f_X12_trim_58 shh M' LL RR (n + 1 + 1) p1 p2 n (n + 1) (nI (5 ^ f)) (-1) (nI f) = _
            unfold f_X12_trim_58
            rw [q1 73 10 (by omega), ha 73 10 (by omega) (by omega) (by omega), f10, if_neg (nI_ge hf (by omega)), ok_t (ix_k (show f < 4 by omega) (by decide)), nm_u, nI_clamp (by omega), q1 88 f (by omega), ha 88 f (by omega) (by omega) (by omega), ok_t (xk_t hs3 (ix_k (show f < 4 by omega) (by decide))), nm_u, nm_u, nI_1, ← nI5]
          · by_cases e : g = f
            · subst e; exact px_u_in _ _ _ _
            · rw [pu_n (by omega)]; exact q2 g (by omega))
        (fun M' hP => by
          show f_X12_trim_58 shh M' LL RR (n + 1 + 1) p1 p2 n (n + 1) (nI (5 ^ nf)) (-1) (nI nf) = _
          unfold f_X12_trim_58
          rw [hP.1 73 10 (by omega), ha 73 10 (by omega) (by omega) (by omega), f10, if_pos (Int32.le_refl _)]) nf 0 Ma (by omega) ⟨fun _ _ _ => rfl, fun f hf => absurd hf (by omega)⟩
      obtain ⟨k1, k2, k3⟩ := K1
      obtain ⟨Mr, hMr⟩ : ∃ Mr, Mr = fld (fun f (M' : px_M) => px_u M' n f (M1 88 f)) 0 nf Ma := ⟨_, rfl⟩
      rw [← hMr] at k1 k2 k3
      have hr : ∀ c j, c ≠ n → c ≠ n + 1 → ¬ (c = 73 ∧ j = 0) → Mr c j = M1 c j := fun c j x1 x2 x3 => by rw [k2 c j x1, ha c j x1 x2 x3]
      have hnn : ∀ c j, md sh c j = 2 → c ≠ n ∧ c ≠ n + 1 := by
        intro c j e
        constructor
        · intro q
          rw [q, md_n hn hsn] at e
          exact absurd e (by decide)
        · intro q
          rw [q, md_n (by omega) hsn1] at e
          exact absurd e (by decide)
      have hs1' : ∀ c j, md sh c j = 2 → ¬ (c = 6 ∧ (j = 11 ∨ j = 12)) → M1 c j = M c j := fun c j e q => hs1 c j (fun x => by rw [x] at e; exact absurd (show (0 : Nat) = 2 from e) (by decide)) (fun x => by rw [x] at e; exact absurd (show (0 : Nat) = 2 from e) (by decide)) (fun x => by rw [x] at e; exact absurd (show (0 : Nat) = 2 from e) (by decide)) (fun x => by rw [x] at e; exact absurd (show (0 : Nat) = 2 from e) (by decide)) (fun x => by rw [x] at e; exact absurd (show (0 : Nat) = 2 from e) (by decide)) q
      obtain ⟨Mb, b1, ⟨b2, b3, b4⟩, b5⟩ := m_trimLoop (L1 := LL) (R1 := RR) h hn hs2 (Mr := Mr) (fun c j e q => by
        rw [hr c j (hnn c j e).1 (hnn c j e).2 (md_73_0 e (by decide))]; exact hs1' c j e q) (fun j => by rw [k2 (n + 1) j (by omega), hMa, px_c_in]) p1 p2
      rw [hS2] at b1 b5
      -- back to what was
      have K2 := fun z : Int32 => lpf_for (body := fun a : Int32 × px_M => f_X12_trim_275 shh a.2 LL RR (n + 1 + 1) p2 n (n + 1) z a.1) (fun f (M' : px_M) => (nI f, M')) (fun f M' => px_u M' 88 f (M1 88 f))
        (fun k M' => (∀ c j, c ≠ 88 → M' c j = Mb c j) ∧ (∀ f, f < k → M' 88 f = M1 88 f) ∧ ∀ f, nf ≤ f → M' 88 f = Mb 88 f) (fun M' => M') nf
        (fun f M' hf hP => by
          obtain ⟨q1, q2, q3⟩ := hP
          refine ⟨?_, fun c j q => by rw [pu_n (by omega)]; exact q1 c j q, fun g hg => ?_, fun g hg => by rw [pu_n (by omega)]; exact q3 g hg⟩
          · show f_X12_trim_275 shh M' LL RR (n + 1 + 1) p2 n (n + 1) z (nI f) = _
            unfold f_X12_trim_275
            rw [q1 73 10 (by omega), b2 73 10 (by omega) (by omega), hr 73 10 (by omega) (by omega) (by omega), f10, if_neg (nI_ge hf (by omega)), ok_t (xk_t hs3 (ix_k (show f < 4 by omega) (by decide))), nm_u, nI_clamp (by omega), q1 n f (by omega), b2 n f (by omega) (by omega), k3 f hf, ok_t (ix_k (show f < 4 by omega) (by decide)), nm_u, nI_1]
          · by_cases e : g = f
            · subst e; exact px_u_in _ _ _ _
            · rw [pu_n (by omega)]; exact q2 g (by omega))
        (fun M' hP => by
          show f_X12_trim_275 shh M' LL RR (n + 1 + 1) p2 n (n + 1) z (nI nf) = _
          unfold f_X12_trim_275
          rw [hP.1 73 10 (by omega), b2 73 10 (by omega) (by omega), hr 73 10 (by omega) (by omega) (by omega), f10, if_pos (Int32.le_refl _)]) nf 0 Mb (by omega) ⟨fun _ _ _ => rfl, fun f hf => absurd hf (by omega), fun _ _ => rfl⟩
      obtain ⟨Mc, hMc⟩ : ∃ Mc, Mc = fld (fun f (M' : px_M) => px_u M' 88 f (M1 88 f)) 0 nf Mb := ⟨_, rfl⟩
      rw [← hMc] at K2
      obtain ⟨-, c1, c2, c3⟩ := K2 0
      refine ⟨Mc, ?_, ?_, fun c j x1 x2 x3 => ?_⟩
      · rw [hgm M1]
        unfold f_X12_trim_31 f_X12_trim_328
        rw [e_bf, bd1_e, if_pos rfl]
        simp only [nm_u]
        rw [← hMa, ← hshh, ← hLL, ← hRR, show lpf (fun a : Int32 × Int32 × px_M => f_X12_trim_58 shh a.2.2 LL RR (n + 1 + 1) p1 p2 n (n + 1) a.1 (-1) a.2.1) (1, 0, Ma) = _ from k1, bd1_e]
        dsimp only
        rw [b1, bd1_e]
        dsimp only
        rw [show lpf (fun a : Int32 × px_M => f_X12_trim_275 shh a.2 LL RR (n + 1 + 1) p2 n (n + 1) S.1 a.1) (0, Mb) = _ from (K2 S.1).1, bd1_e]
        have g10 : Mc 73 10 = nI nf := by rw [c1 73 10 (by decide), b2 73 10 (by omega) (by omega), hr 73 10 (by omega) (by omega) (by omega)]; exact f10
        rw [g10]
        by_cases q : p2 = -1
        · rw [if_pos q, if_pos q]
        · rw [if_neg q, if_neg q]
          by_cases q2 : nI nf ≤ p2
          · rw [if_pos q2, if_pos q2]
          · rw [if_neg q2, if_neg q2]
            rcases hp2 with x | ⟨k, x1, rfl⟩
            · exact absurd x q
            · have hk : k < nf := (nI_ltI (by omega) (by omega)).mp (Int32.not_le.mp q2)
              rw [ok_t (xk_t hs2 (ix_k x1 (by decide))), nI_clamp (by omega), c1 (n + 1) k (by omega), b5 k hk]
      · rw [c1 73 0 (by decide), b2 73 0 (by decide) (by omega), k2 73 0 (by omega), hMa, px_c_ne _ _ (by omega), px_c_ne _ _ (by omega)]; exact px_u_in _ _ _ _
      · by_cases e : c = 88
        · subst e
          by_cases hj : j < nf
          · exact c2 j hj
          · rw [c3 j (by omega), b4 j (by omega), hr 88 j x1 x2 x3]
        · rw [c1 c j e, b2 c j e x2, hr c j x1 x2 x3]
    have hfin : ∀ M1 M2, scrS M M1 → (∀ c j, c ≠ n → c ≠ n + 1 → ¬ (c = 73 ∧ j = 0) → M2 c j = M1 c j) → (M2 6 1 = M 6 1 ∧ ∀ j, M2 84 j = M 84 j) ∧ kp sh [2] M M2 ∧ Isail sh M2 R := by
      intro M1 M2 hs1 h2
      refine ⟨⟨?_, fun j9 => ?_⟩, fun c j hx => ?_, np, nf, pa, fp, h.scr fun c j e q => ?_⟩
      · rw [h2 6 1 (by omega) (by omega) (by omega)]; exact hs1 6 1 (by decide) (by decide) (by decide) (by decide) (by decide) (by omega)
      · rw [h2 84 j9 (by omega) (by omega) (by omega)]; exact hs1 84 j9 (by decide) (by decide) (by decide) (by decide) (by decide) (by omega)
      · have y1 : c ≠ n := fun q => hx (by rw [q, md_n hn hsn]; exact List.mem_cons_self)
        have y2 : c ≠ n + 1 := fun q => hx (by rw [q, md_n (by omega) hsn1]; exact List.mem_cons_self)
        have y3 : ¬ (c = 73 ∧ j = 0) := fun q => hx (by rw [q.1, q.2]; exact List.mem_cons_self)
        rw [h2 c j y1 y2 y3]
        exact hs1 c j (fun q => hx (by rw [q]; exact List.mem_cons_self)) (fun q => hx (by rw [q]; exact List.mem_cons_self)) (fun q => hx (by rw [q]; exact List.mem_cons_self)) (fun q => hx (by rw [q]; exact List.mem_cons_self)) (fun q => hx (by rw [q]; exact List.mem_cons_self)) (fun q => hx (by rw [q.1]; exact List.mem_cons_of_mem _ List.mem_cons_self))
      · have y1 : c ≠ n := fun q => by rw [q, md_n hn hsn] at e; exact absurd e (by decide)
        have y2 : c ≠ n + 1 := fun q => by rw [q, md_n (by omega) hsn1] at e; exact absurd e (by decide)
        rw [h2 c j y1 y2 (md_73_0 e (by decide))]
        exact hs1 c j (fun x => by rw [x] at e; exact absurd (show (0 : Nat) = 2 from e) (by decide)) (fun x => by rw [x] at e; exact absurd (show (0 : Nat) = 2 from e) (by decide)) (fun x => by rw [x] at e; exact absurd (show (0 : Nat) = 2 from e) (by decide)) (fun x => by rw [x] at e; exact absurd (show (0 : Nat) = 2 from e) (by decide)) (fun x => by rw [x] at e; exact absurd (show (0 : Nat) = 2 from e) (by decide)) q
    by_cases q3 : p2 < nI nf
    · obtain ⟨M1, c1, c2, c3⟩ := c_findTrim h hS p1
      rw [← hSd] at c1 c3
      obtain ⟨M2, m1, m2, m3⟩ := href M1 c2
      refine ⟨(if p2 = -1 then S.1 else if nI nf ≤ p2 then -3 else S.2 p2.toNatClampNeg), M1, M2, ?_, m1, m2, hfin M1 M2 c2 m3⟩
      rw [hgc]
      unfold f_X11_trim_24 f_X11_trim_64
      rw [h.2.1.2.2.1, if_pos q3, c1, bd1_e]
      dsimp only
      rcases hp2 with rfl | ⟨k, x1, rfl⟩
      · rw [if_neg (by decide), if_pos rfl]; rfl
      · have hk : k < nf := (nI_ltI (by omega) (by omega)).mp q3
        rw [if_pos (nI_pos' (by omega)), ok_t (ix_k x1 (by decide)), nI_clamp (by omega), c3 k hk, if_neg (fun q => by have := nI_pos' (n := k) (by omega); rw [q] at this; exact absurd this (by decide)), if_neg (nI_ge hk (by omega))]
        rfl
    · obtain ⟨M2, m1, m2, m3⟩ := href M (fun _ _ _ _ _ _ _ _ => rfl)
      have q4 : nI nf ≤ p2 := Int32.not_lt.mp q3
      have q5 : ¬ p2 = -1 := fun q => by
        rw [q] at q4
        exact absurd (Int32.le_trans (nI_pos' (n := nf) (by omega)) q4) (by decide)
      rw [if_neg q5, if_pos q4] at m1
      refine ⟨-3, M, M2, ?_, m1, m2, hfin M M2 (fun _ _ _ _ _ _ _ _ => rfl) m3⟩
      rw [hgc]
      unfold f_X11_trim_24
      rw [h.2.1.2.2.1, if_neg q3]
      rfl
  · right
    have hb : f_X12_trim_26 sh (px_u M 73 0 0) L R n p1 p2 = some (0, sh, px_t M 1, L, R, n) := by
      unfold f_X12_trim_26 f_X12_trim_31
      rw [e_bt (by decide), bd1_e]; rfl
    unfold f_X11_trim f_X12_trim f_X11_trim_20 f_X11_trim_21
    by_cases q1 : -8 ≤ p1 ∧ p1 ≤ 8 <;> by_cases q2 : -1 ≤ p2 ∧ p2 ≤ 3
    · exact absurd ⟨q1, q2⟩ hc
    all_goals simp [e_isSlant, e_within, e_in, bd1_e, nm_u, bI_0, q1, q2, hb]
end TRIM4
