/-! asks: both find the same rule -/
section ASKS
variable {sh : px_Sh} {M : px_M} {L : px_L} {R : px_R} {np nf nw d r a nd A B n : Nat} {pa fp wa ch ly tx : Nat → Nat} {Lr : List Rul}
theorem tok_cg {v w : Nat → Int32} (h : ∀ j, j < 7 → v j = w j) (t : Int32) (S : List Int32) : tok v t S = tok w t S := by
  unfold tok
  by_cases c1 : 0 < -t
  · rw [if_pos c1, if_pos c1]
    by_cases c2 : 0 ≤ -t - 307 ∧ -t - 307 ≤ 6
    · rw [if_pos c2, if_pos c2]
      obtain ⟨j, hj, ej⟩ := nI_of2 (M := 6) (n := 6) (by decide) (Int32.not_lt.mpr c2.1) c2.2
      rw [ej, nI_clamp (show j < 2 ^ 31 by omega), h j (by omega)]
    · rw [if_neg c2, if_neg c2]
  · rw [if_neg c1, if_neg c1]
theorem rnC_cg {v w : Nat → Int32} (h : ∀ j, j < 7 → v j = w j) : ∀ (c S : List Int32), rnC v c S = rnC w c S
  | [], _ => rfl
  | t :: c, S => by
    show rnC v c (tok v t S) = rnC w c (tok w t S)
    rw [tok_cg h, rnC_cg h c]
theorem val_cg {v w : Nat → Int32} (h : ∀ j, j < 7 → v j = w j) (hG : RuG n Lr) {q : Rul} (hq : q ∈ Lr) : q.2.2 v = q.2.2 w := by
  obtain ⟨-, g, -⟩ := hG q hq
  have e := rnC_cg h q.2.1 []
  rw [g v [] (by simp), g w [] (by simp)] at e
  simpa using e
theorem hlF_cg {v w : Nat → Int32} (h : ∀ j, j < 7 → v j = w j) : ∀ (K : List Rul) (i : Nat) (x : Int32 × Int32), RuG n K → hlF v K i x = hlF w K i x
  | [], _, _, _ => rfl
  | q :: K, i, x, hG => by
    show hlF v K (i + 1) (hlS v x i q) = hlF w K (i + 1) (hlS w x i q)
    have e : hlS v x i q = hlS w x i q := by
      unfold hlS
      rw [val_cg h hG (List.mem_cons_self)]
    rw [e]
    exact hlF_cg h K (i + 1) _ fun z hz => hG z (List.mem_cons_of_mem _ hz)
/-- which rule is held, and its steer: for the class from its cells, for the reference from its own -/
theorem j_rule (hS : SR sh R) (hA : SailI sh M R np nf pa fp) (hW : WI sh M L R nw wa ch ly) (hV : VI M nw d r a nd) (hU : RuI M R A B tx n Lr) :
    ∃ h k, k < 3 ∧ (h = -1 → k = 1) ∧
      (∀ Mc : px_M, (∀ c j, (c < 73 ∨ 219 ≤ c) → Mc c j = M c j) → ∃ Mc', f_X9_firstRule sh Mc R A (vStr M pa np) = some (h, Mc') ∧ (∀ c j, c ≠ 19 → c ≠ A + 4 → Mc' c j = Mc c j) ∧ (h ≠ -1 → f_X7_steerOf sh Mc' R A h = some (nI k))) ∧
      ∀ Mr : px_M, (∀ c j, 73 ≤ c → c ≤ 218 → md sh c j ≠ 0 → Mr c j = M c j) → ∃ Mr', f_X12_asked Mr = some Mr' ∧ Mr' 73 83 = h ∧ Mr' 73 84 = nI k ∧ ∀ c j, ¬ (c = 73 ∧ 77 ≤ j ∧ j ≤ 85) → Mr' c j = Mr c j := by
  obtain ⟨vals, hN, hF⟩ := c_fill hA hW hV
  obtain ⟨u1, u2, u3, u4, u5, u6, u7, u8⟩ := hU
  have hAs : sh A = some (7, 0) ∧ R A 0 = some (A + 1) ∧ R A 1 = some (A + 2) ∧ R A 2 = some (A + 3) ∧ R A 3 = some (A + 4) ∧ sh (A + 1) = some (13, 300) ∧ sh (A + 2) = some (13, 16) ∧ sh (A + 3) = some (13, 16) ∧ sh (A + 4) = some (13, 32) := by
    rcases u1 with ⟨rfl, -⟩ | ⟨rfl, -⟩
    · exact ⟨sc_22 hS, rr_22_0 hS, rr_22_1 hS, rr_22_2 hS, rr_22_3 hS, sc_23 hS, sc_24 hS, sc_25 hS, sc_26 hS⟩
    · exact ⟨sc_68 hS, rr_68_0 hS, rr_68_1 hS, rr_68_2 hS, rr_68_3 hS, sc_69 hS, sc_70 hS, sc_71 hS, sc_72 hS⟩
  obtain ⟨s1, s2, s3, s4, s5, s6, s7, s8, s9⟩ := hAs
  have hAr : (A = 22 ∨ A = 68) := by omega
  obtain ⟨H, eH⟩ : ∃ H, H = hlF vals Lr 0 (-1, 1) := ⟨_, rfl⟩
  have hcase : (H = (-1, 1)) ∨ ∃ i, i < Lr.length ∧ H = (nI i, nI (stL Lr i)) ∧ stL Lr i < 3 := by
    rcases hlF_e vals Lr 0 (by omega) with ⟨a1, -⟩ | ⟨L1, q, L2, a1, a2, a3, a4⟩
    · left; rw [eH, a1]
    · right
      have hl1 : L1.length < Lr.length := by rw [a1]; simp
      have hstl : stL Lr L1.length = q.1 := by rw [a1]; exact stL_mid L1 q L2
      refine ⟨L1.length, hl1, by rw [eH, a4, hstl, Nat.zero_add], ?_⟩
      rw [hstl]
      exact (u6.2.1 q (by rw [a1]; simp)).1
  obtain ⟨k, hk3, hk2, hk1⟩ : ∃ k, k < 3 ∧ H.2 = nI k ∧ (H.1 = -1 → k = 1) := by
    rcases hcase with e | ⟨i, i1, e, i2⟩
    · exact ⟨1, by omega, by rw [e]; rfl, fun _ => rfl⟩
    · exact ⟨_, i2, by rw [e], fun z => by rw [e] at z; exact absurd z (nI_ne1 (by omega))⟩
  refine ⟨H.1, k, hk3, hk1, fun Mc hMc => ?_, fun Mr hMr => ?_⟩
  · have f : ∀ c j, c < 73 → c ≠ 19 → fil Mc vals c j = M c j := fun c j h1 h2 => by rw [fil_o h2, hMc c j (Or.inl h1)]
    obtain ⟨M', g1, g2, g3⟩ := c_held (M := fil Mc vals) (A := A) s1 s2 s3 s5 s6 s7 s9 (by omega) u5.2.2 (by rw [f A 5 (by omega) (by omega)]; exact u5.2.1) u6.2.1 u6.2.2 (fun j hj => by rw [f _ _ (by omega) (by omega)]; exact u7 j hj) (fun i hi => by rw [f _ _ (by omega) (by omega)]; exact (u8 i hi).1)
    have ev : hlF (fil Mc vals 19) Lr 0 (-1, 1) = H := by
      rw [eH]
      exact hlF_cg (fun j hj => if_pos ⟨rfl, hj⟩) Lr 0 _ u6.2.1
    rw [ev] at g1 g3
    refine ⟨M', ?_, fun c j h1 h2 => ?_, fun hne => ?_⟩
    · rw [hF Mc hMc A s1, g1, bd1_e]
    · rw [g2 c j h2, fil_o h1]
    · rcases hcase with e | ⟨i, i1, e, i2⟩
      · exact absurd (by rw [e]) hne
      · have h5 : M' A 5 = nI Lr.length := by rw [g2 A 5 (by omega), f A 5 (by omega) (by omega)]; exact u5.2.1
        have hst : M' (A + 3) i = nI (stL Lr i) := by rw [g2 _ _ (by omega), f _ _ (by omega) (by omega)]; exact (u8 i i1).2
        rw [show H.1 = nI i by rw [e], c_steerOf s1 s4 s8 u5.2.2 h5 i1, hst, ← hk2, e]
  · obtain ⟨M3, eM3⟩ : ∃ M3, M3 = px_u (px_u Mr 73 77 1) 73 79 (nI n) := ⟨_, rfl⟩
    have hM3 : ∀ c j, ¬ (c = 73 ∧ (j = 77 ∨ j = 79)) → M3 c j = Mr c j := by
      intro c j q
      rw [eM3, pu_n (by omega), pu_n (by omega)]
    have hRq : RqI tx n M3 vals := by
      refine ⟨u4.1, by rw [eM3, px_u_in], fun i hi => ?_, fun M' hM' k hk => hN M' (fun c j c1 c2 hm => ?_) k hk⟩
      · rw [if_neg (by rw [eM3, pu_n (by omega), px_u_in]; decide), hM3 178 i (by omega), hMr 178 i (by omega) (by omega) (show (4 : Nat) ≠ 0 by decide)]
        exact u4.2.1 i hi
      · have hne : ¬ (c = 73 ∧ 77 ≤ j ∧ j ≤ 85) := by
          rintro ⟨rfl, q⟩
          have hz : mdf j = 0 := by
            unfold mdf
            rw [if_neg (by omega), if_neg (by omega), if_neg (by omega), if_neg (by omega), if_neg (by omega), if_neg (by omega), if_neg (by omega), if_neg (by omega), if_neg (by omega), if_neg (by omega), if_neg (by omega), if_neg (by omega), if_neg (by omega), if_neg (by omega)]
          have : md sh 73 j = mdf j := rfl
          rw [this, hz] at hm
          omega
        rw [hM' c j (by omega), hM3 c j (by omega), hMr c j c1 c2 (by omega)]
    obtain ⟨Mr', g1, g2⟩ := m_readAll hRq
    rw [u6.1] at g2
    obtain ⟨a', rfl⟩ := g2
    rw [← eH] at g1
    refine ⟨rsM (rhM M3 H.1 H.2 (nI Lr.length)) a' (nI 0) 0 (-1), ?_, rh83, ?_, fun c j hn => ?_⟩
    · unfold f_X12_asked
      have e37 : px_u Mr 73 77 1 73 37 = nI n := by rw [pu_n (by omega), hMr 73 37 (by omega) (by omega) (show (4 : Nat) ≠ 0 by decide)]; exact u4.2.2
      rw [nm_u, nm_u, e37, nm_u, ← eM3, g1, bd1_e]
    · rw [rh84]; exact hk2
    · rw [rs_out (by omega), hM3 c j (by omega)]
theorem p_asks (hS : SR sh R) (hA : Isail sh M R) (hW : WI sh M L R nw wa ch ly) (hV : VI M nw d r a nd) (hU : Iru M R) : ∃ q M1 M2, f_X11_asks sh M R = some (q, M1) ∧ f_X12_asks M1 = some (q, M2) ∧ M2 73 0 = 0 ∧ kp sh [] M M2 := by
  obtain ⟨np, nf, pa, fp, hA⟩ := hA
  obtain ⟨A, B, tx, n, Lr, hU⟩ := hU
  have hAr : (A = 22 ∨ A = 68) := by have := hU.1; omega
  have hAs : sh A = some (7, 0) := by
    rcases hAr with rfl | rfl
    · exact sc_22 hS
    · exact sc_68 hS
  obtain ⟨h, k, k1, k2, k3, k4⟩ := j_rule hS hA hW hV hU
  obtain ⟨Mc', g1, g2, g3⟩ := k3 M (fun _ _ _ => rfl)
  have hm19 : ∀ j, md sh 19 j = 0 := fun _ => rfl
  have hmA : ∀ j, md sh (A + 4) j = 0 := by
    intro j
    rcases hAr with rfl | rfl <;> rfl
  obtain ⟨Mr', g4, g5, g6, g7⟩ := k4 (px_u Mc' 73 0 0) (fun c j c1 c2 hm => by
    have : ¬ (c = 73 ∧ j = 0) := by
      rintro ⟨rfl, rfl⟩; exact hm rfl
    rw [pu_n this, g2 c j (by omega) (by omega)])
  have hstr := c_strengthP hA.pac
  have hkp : kp sh [] M Mr' := by
    intro c j hn
    have n0 : ¬ md sh c j = 0 := fun z => hn (by rw [z]; exact List.mem_cons_self)
    have q1 : ¬ (c = 73 ∧ (j = 0 ∨ 77 ≤ j ∧ j ≤ 85)) := by
      rintro ⟨rfl, q⟩
      apply n0
      show mdf j = 0
      rcases q with rfl | q
      · rfl
      · unfold mdf
        rw [if_neg (by omega), if_neg (by omega), if_neg (by omega), if_neg (by omega), if_neg (by omega), if_neg (by omega), if_neg (by omega), if_neg (by omega), if_neg (by omega), if_neg (by omega), if_neg (by omega), if_neg (by omega), if_neg (by omega), if_neg (by omega)]
    rw [g7 c j (by omega), pu_n (by omega), g2 c j (fun z => n0 (by rw [z]; exact hm19 j)) (fun z => n0 (by rw [z]; exact hmA j))]
  have h00 : Mr' 73 0 = 0 := by rw [g7 73 0 (by omega), px_u_in]
  unfold f_X11_asks f_X11_asks_46 f_X12_asks f_X12_asks_34
  rw [hU.2.1.1, bd1_e, hstr, bd1_e, g1, bd1_e, bd1_e]
  by_cases e : h = -1
  · rw [if_pos e]
    refine ⟨-9, Mc', Mr', rfl, ?_, h00, hkp⟩
    rw [nm_u, g4, bd1_e, g5, if_pos e]
  · rw [if_neg e, ok_t (hk_t hAs), g3 e, bd1_e]
    refine ⟨10 * h + nI k, Mc', Mr', rfl, ?_, h00, hkp⟩
    rw [nm_u, g4, bd1_e, g5, g6, if_neg e]
end ASKS
