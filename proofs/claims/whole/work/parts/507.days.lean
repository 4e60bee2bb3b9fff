/-! the class's days and first ways -/
def WC (sh : px_Sh) (M : px_M) (L : px_L) (R : px_R) (w A C Y wr an ws : Nat) : Prop :=
  (R 15 w = some A ∧ sh A = some (10, 0) ∧ 220 ≤ A ∧ R A 3 = some C ∧ sh C = some (1, 0) ∧ 220 ≤ C ∧ R C 3 = some Y ∧ sh Y = some (14, 20992) ∧ 220 ≤ Y) ∧ (M A 0 = nI wr ∧ M A 1 = nI an ∧ M A 2 = nI ws) ∧ (M C 0 = nI ws ∧ CL wr ws (M C 1) (M C 2) (L Y)) ∧ w < 4 ∧ (wr ≤ 255 ∧ an < 72 ∧ ws ≤ 10) ∧ M 90 w = nI wr ∧ M 91 w = nI an ∧ M 92 w = nI ws
def CF (M : px_M) (L : px_L) (M' : px_M) (L' : px_L) (C Y : Nat) : Prop := (∀ c j, ¬ (c = C ∧ (j = 1 ∨ j = 2)) → M' c j = M c j) ∧ ∀ c, c ≠ Y → L' c = L c
theorem CF.rf {M : px_M} {L : px_L} {a b : Nat} : CF M L M L a b := ⟨fun _ _ _ => rfl, fun _ _ => rfl⟩
theorem CF.tr {M M' M2 : px_M} {L L' L2 : px_L} {a b : Nat} (h : CF M L M' L' a b) (h2 : CF M' L' M2 L2 a b) : CF M L M2 L2 a b := ⟨fun c j q => (h2.1 c j q).trans (h.1 c j q), fun c q => (h2.2 c q).trans (h.2 c q)⟩
theorem ChF.cf {M M' : px_M} {L L' : px_L} {a b : Nat} (h : ChF M L M' L' a b) : CF M L M' L' a b := ⟨fun c j q => h.1 c j (by omega), h.2⟩
def hq (an ws r a d q : Nat) : Nat := (a + q * trn r + 72 - (an + ws * (d + q)) % 72) % 72
section DAYS
variable {sh : px_Sh} {M : px_M} {L : px_L} {R : px_R} {w A C Y wr an ws s d r a : Nat}
theorem ChI.cl (h : ChI sh M L R C Y wr ws s) : CL wr ws (M C 1) (M C 2) (L Y) := by
  obtain ⟨h1, h2, h3, h4, h5, h6, h7, k, h8, h9, h10, h11⟩ := h
  exact ⟨h11 0 (by omega), Or.inr ⟨s, k, h7, h5, h8, h9, h10, h11⟩⟩
theorem WC.up {M' : px_M} {L' : px_L} (h : WC sh M L R w A C Y wr an ws) (hF : CF M L M' L' C Y) (hC : CL wr ws (M' C 1) (M' C 2) (L' Y)) : WC sh M' L' R w A C Y wr an ws := by
  obtain ⟨h1, h2, h3, h4, h5, h6⟩ := h
  have hAC : A ≠ C := fun e => by
    have := h1.2.1
    rw [e, h1.2.2.2.2.1] at this
    simp at this
  refine ⟨h1, ?_, ⟨?_, hC⟩, h4, h5, ?_⟩
  · rw [hF.1 A 0 (by omega), hF.1 A 1 (by omega), hF.1 A 2 (by omega)]; exact h2
  · rw [hF.1 C 0 (by omega)]; exact h3.1
  · have := h1.2.2.2.2.2.1
    rw [hF.1 90 w (by omega), hF.1 91 w (by omega), hF.1 92 w (by omega)]; exact h6
theorem c_fit (h : WC sh M L R w A C Y wr an ws) (hs : s ≤ 20) : ∃ M', f_X10_chartFor sh M R A (nI s) = some (C, M') ∧ ChI sh M' L R C Y wr ws s ∧ CF M L M' L C Y := by
  obtain ⟨⟨h1, h2, h3, h4, h5, h6, h7, h8, h9⟩, k1, ⟨k2, k3⟩, k4, k5, k6⟩ := h
  have head : ∀ M', f_X1_fitTo sh M C (nI s) = some M' → f_X10_chartFor sh M R A (nI s) = some (C, M') := by
    intro M' hM
    unfold f_X10_chartFor
    rw [ok_t (hk_t h2), h4, bd1_e, ok_t (hk_t h2), bd1_e, ok_t (hk_t h5), hM, bd1_e, ok_t (hk_t h2), bd1_e]
  by_cases q : M C 1 = nI s
  · refine ⟨M, head M ?_, ?_, CF.rf⟩
    · unfold f_X1_fitTo f_X1_fitTo_18
      rw [ok_t (hk_t h5), if_pos q]
    · rcases k3.2 with z | ⟨s', k, z1, z2, z3, z4, z5, z6⟩
      · rw [z] at q; exact absurd q.symm (nI_ne1 (by omega))
      · obtain rfl : s = s' := (nI_eq (by omega) (by omega)).mp (q.symm.trans z2)
        exact ⟨h5, h7, h8, k2, q, k5.2.2, hs, k, z3, z4, z5, z6⟩
  · refine ⟨px_u (px_u M C 1 (nI s)) C 2 1, head _ ?_, ?_, ?_⟩
    · unfold f_X1_fitTo f_X1_fitTo_18
      rw [ok_t (hk_t h5), if_neg q, ok_t (hk_t h5), nm_u, ok_t (hk_t h5), nm_u]
    · refine ⟨h5, h7, h8, ?_, ?_, k5.2.2, hs, 1, px_u_in _ _ _ _, by omega, by omega, fun d hd => ?_⟩
      · rw [pu_n (by omega), pu_n (by omega)]; exact k2
      · rw [pu_n (by omega)]; exact px_u_in _ _ _ _
      · obtain rfl : d = 0 := by omega
        exact k3.1
    · exact ⟨fun c j hc => by rw [pu_n (by omega), pu_n (by omega)], fun _ _ => rfl⟩
theorem c_days (h : WC sh M L R w A C Y wr an ws) (hs : s ≤ 20) {q : Nat} (hq20 : q ≤ 20) (hd : d ≤ 2000) (hr : r ≤ 255) (ha : a < 72) (e0 : M 14 0 = nI d) (e1 : M 14 1 = nI r) (e2 : M 14 2 = nI a) :
    ∃ z M' L', f_X9_fewestDays sh M L R (nI w) (nI q) (nI s) = some (z, M', L') ∧ isFst (fun e => Dd wr ws s e r (hq an ws r a d q)) z ∧ ChI sh M' L' R C Y wr ws s ∧ CF M L M' L' C Y := by
  obtain ⟨M', g1, g2, g3⟩ := c_fit h hs
  obtain ⟨⟨h1, h2, h3, h4, h5, h6, h7, h8, h9⟩, k1, ⟨k2, k3⟩, k4, k5, k6⟩ := h
  have tb := trn_b r
  have hm : q * trn r ≤ 20 * 11 := Nat.mul_le_mul hq20 tb.2
  have hm2 : ws * (d + q) ≤ 10 * 2020 := Nat.mul_le_mul k5.2.2 (by omega)
  have hh : hq an ws r a d q < 72 := Nat.mod_lt _ (by decide)
  obtain ⟨z, M2, L2, r1, r2, r3, r4⟩ := c_fewest hr hh g2
  refine ⟨z, M2, L2, ?_, r2, r3, g3.tr r4.cf⟩
  have ea : f_X10_aheadOn sh M A (nI d + nI q) (nI a + nI q * nI (trn r)) = some (nI (hq an ws r a d q)) := by
    unfold f_X10_aheadOn f_X10_angleOn
    rw [ok_t (hk_t h2), ok_t (hk_t h2), ok_t (hk_t h2), k1.2.1, k1.2.2, nI_add d q, pk_mul ws, nI_add an, show (72 : Int32) = nI 72 from rfl, pk_rem (by omega) (by decide) (by decide), bd1_e, pk_mul, nI_add]
    show bd1 (f_J9_floorMod_7cf53 (nI (a + q * trn r) - nI ((an + ws * (d + q)) % 72)) 72) _ = _
    rw [e_fm (by omega) (by omega), bd1_e]
    rfl
  unfold f_X9_fewestDays
  rw [e1, e_turn hr, bd1_e, e2, nm_u, ok_t (ix_k k4 (by decide)), nI_clamp (by omega), h1, bd1_e, ok_t (hk_t h2), e0, ea, bd1_e, ok_t (ix_k k4 (by decide)), bd1_e, ok_t (hk_t h2), g1, bd1_e, ok_t (hk_t h5)]
  show bd1 (f_X1_fewestFrom sh M' L R C (M' 14 1) (nI (hq an ws r a d q))) _ = _
  rw [g3.1 14 1 (by omega), e1, r1, bd1_e]
/-- the first ways: where one stands behind j days -/
def Pth (wr ws s l r0 h0 : Nat) : Nat → Nat → Nat → Prop
  | 0, r, h => r = r0 ∧ h = h0
  | j + 1, r, h => ∃ r1 h1 k, Pth wr ws s l r0 h0 j r1 h1 ∧ isSt wr ws s (l - (j + 1)) r1 h1 k ∧ nxt s r1 k = some r ∧ h = (h1 + trn r1 + 72 - ws) % 72
theorem isSt.uniq {d r h k k' : Nat} (h1 : isSt wr ws s d r h k) (h2 : isSt wr ws s d r h k') : k = k' := by
  obtain ⟨⟨a1, r1, a2, a3⟩, a4⟩ := h1
  obtain ⟨⟨b1, r2, b2, b3⟩, b4⟩ := h2
  have c1 : ¬ k < k' := fun q => b4 k q r1 a2 a3
  have c2 : ¬ k' < k := fun q => a4 k' q r2 b2 b3
  omega
theorem Pth.uniq {l r0 h0 : Nat} : ∀ j r h r' h', Pth wr ws s l r0 h0 j r h → Pth wr ws s l r0 h0 j r' h' → r = r' ∧ h = h'
  | 0, r, h, r', h', p, q => ⟨p.1.trans q.1.symm, p.2.trans q.2.symm⟩
  | j + 1, r, h, r', h', p, q => by
    obtain ⟨r1, h1, k, a1, a2, a3, a4⟩ := p
    obtain ⟨r2, h2, k2, b1, b2, b3, b4⟩ := q
    obtain ⟨rfl, rfl⟩ := Pth.uniq j _ _ _ _ a1 b1
    obtain rfl := a2.uniq b2
    rw [a3] at b3
    exact ⟨Option.some.inj b3, a4.trans b4.symm⟩
theorem isSt_ex {d r h : Nat} (hD : Dd wr ws s (d + 1) r h) : ∃ k, isSt wr ws s d r h k := by
  obtain ⟨k, k1, r', k2, k3⟩ := hD
  obtain ⟨g, ⟨g0, r2, g1, g2⟩, g3⟩ := pk_least (fun k => k < 3 ∧ ∃ r', nxt s r k = some r' ∧ Dd wr ws s d r' ((h + trn r + 72 - ws) % 72)) ⟨k, k1, r', k2, k3⟩
  exact ⟨g, ⟨g0, r2, g1, g2⟩, fun j hj r' h1 h2 => g3 j hj ⟨by omega, r', h1, h2⟩⟩
theorem c_first (h : WC sh M L R w A C Y wr an ws) (hs : s ≤ 20) {p2 : Nat} (hp2 : p2 ≤ 39) (hd : d ≤ 2000) (hr : r ≤ 255) (ha : a < 72) (e0 : M 14 0 = nI d) (e1 : M 14 1 = nI r) (e2 : M 14 2 = nI a) :
    ∃ y z M' L', f_X9_steerOfFirstWay sh M L R (nI w) (nI p2) (nI s) = some (z, M', L') ∧ isFst (fun e => Dd wr ws s e r (hq an ws r a d 0)) y ∧ ((¬ nI p2 < y ∧ z = -1) ∨ ∃ l, l ≤ 40 ∧ y = nI l ∧ p2 < l ∧ ∃ k r' h', Pth wr ws s l r (hq an ws r a d 0) p2 r' h' ∧ isSt wr ws s (l - (p2 + 1)) r' h' k ∧ z = nI k) ∧ ChI sh M' L' R C Y wr ws s ∧ CF M L M' L' C Y := by
  obtain ⟨y, Ma, La, r1, r2, r3, r4⟩ := c_days (q := 0) h hs (by omega) hd hr ha e0 e1 e2
  unfold f_X9_steerOfFirstWay
  rw [show f_X9_fewestDays sh M L R (nI w) 0 (nI s) = _ from r1, bd1_e]
  by_cases q : nI p2 < y
  · have hl : ∃ l, l ≤ 40 ∧ y = nI l ∧ Dd wr ws s l r (hq an ws r a d 0) := by
      rcases r2 with ⟨z1, _⟩ | ⟨l, z1, z2, z3, _⟩
      · rw [z1] at q
        exact absurd q (by rw [Int32.lt_iff_toInt_lt, nI_toInt (by omega), show (-1 : Int32).toInt = -1 by decide]; omega)
      · exact ⟨l, z1, z2, z3⟩
    obtain ⟨l, l1, rfl, l2⟩ := hl
    have hpl : p2 < l := by rw [nI_ltI (by omega) (by omega)] at q; exact q
    have h' := h.up r4 r3.cl
    obtain ⟨Mb, g1, g2, g3⟩ := c_fit h' hs
    have F : CF M L Mb La C Y := r4.tr g3
    have hC := h.1.2.2.2.2.2.1
    have f0 : Mb 14 0 = nI d := by rw [F.1 14 0 (by omega)]; exact e0
    have f1 : Mb 14 1 = nI r := by rw [F.1 14 1 (by omega)]; exact e1
    have f2 : Mb 14 2 = nI a := by rw [F.1 14 2 (by omega)]; exact e2
    have hb := h'.up g3 g2.cl
    obtain ⟨⟨h1, h2, h3, h4, h5, h6, h7, h8, h9⟩, k1, ⟨k2, k3⟩, k4, k5, k6⟩ := hb
    have hm2 : ws * d ≤ 10 * 2020 := Nat.mul_le_mul k5.2.2 (by omega)
    have ea : f_X10_aheadOn sh Mb A (nI d) (nI a) = some (nI (hq an ws r a d 0)) := by
      unfold f_X10_aheadOn f_X10_angleOn hq
      rw [ok_t (hk_t h2), ok_t (hk_t h2), ok_t (hk_t h2), k1.2.1, k1.2.2, pk_mul ws, nI_add an, show (72 : Int32) = nI 72 from rfl, pk_rem (by omega) (by decide) (by decide), bd1_e]
      show bd1 (f_J9_floorMod_7cf53 (nI a - nI ((an + ws * d) % 72)) 72) _ = _
      rw [e_fm (by omega) (by omega), bd1_e, Nat.zero_mul, Nat.add_zero]
      rfl
    obtain ⟨h0, hh0⟩ : ∃ h0, h0 = hq an ws r a d 0 := ⟨_, rfl⟩
    have hh : h0 < 72 := by rw [hh0]; exact Nat.mod_lt _ (by decide)
    rw [← hh0] at ea l2 r2 ⊢
    have loop : ∀ (m j : Nat) (r' h' : Nat) (x8 : Int32) (Mx : px_M) (Lx : px_L), j + m = p2 + 1 → r' ≤ 255 → h' < 72 → ChI sh Mx Lx R C Y wr ws s → Pth wr ws s l r h0 j r' h' → Dd wr ws s (l - j) r' h' → (m = 0 → ∃ k r1 h1, Pth wr ws s l r h0 p2 r1 h1 ∧ isSt wr ws s (l - (p2 + 1)) r1 h1 k ∧ x8 = nI k) →
        ∃ z My Ly, lpf (fun a : Int32 × Int32 × Int32 × Int32 × px_M × px_L => f_X9_steerOfFirstWay_60 sh a.2.2.2.2.1 a.2.2.2.2.2 R (nI p2) (nI s) (nI l) C a.1 a.2.1 a.2.2.1 a.2.2.2.1) (nI r', nI h', x8, nI j, Mx, Lx) = some (z, My, Ly) ∧ (∃ k r1 h1, Pth wr ws s l r h0 p2 r1 h1 ∧ isSt wr ws s (l - (p2 + 1)) r1 h1 k ∧ z = nI k) ∧ ChI sh My Ly R C Y wr ws s ∧ CF Mx Lx My Ly C Y := by
      intro m
      induction m with
      | zero =>
        intro j r' h' x8 Mx Lx hj b1 b2 b3 b4 b5 b6
        refine ⟨x8, Mx, Lx, lpf_end ?_, b6 rfl, b3, CF.rf⟩
        show f_X9_steerOfFirstWay_60 sh Mx Lx R (nI p2) (nI s) (nI l) C (nI r') (nI h') x8 (nI j) = _
        unfold f_X9_steerOfFirstWay_60
        rw [if_pos (nI_lt (by omega) (by omega))]
      | succ m ih =>
        intro j r' h' x8 Mx Lx hj b1 b2 b3 b4 b5 b6
        have e5 : l - j = (l - (j + 1)) + 1 := by omega
        rw [e5] at b5
        obtain ⟨k, My, Ly, d1, d2, d3, d4⟩ := c_steer (d := l - (j + 1)) (by omega) b1 b2 b3 b5
        obtain ⟨x, x1, x2⟩ := e_rho (s := s) (k := k) b1 hs d2.1.1
        obtain ⟨⟨d5, r2, d6, d7⟩, d8⟩ := d2
        rcases x2 with ⟨r3, n1, n2, n3⟩ | ⟨n1, -⟩
        · rw [d6] at n1
          obtain rfl := Option.some.inj n1
          have hbd : f_X9_steerOfFirstWay_60 sh Mx Lx R (nI p2) (nI s) (nI l) C (nI r') (nI h') x8 (nI j) = some (.inl (nI r2, nI ((h' + trn r' + 72 - ws) % 72), nI k, nI (j + 1), My, Ly)) := by
            unfold f_X9_steerOfFirstWay_60
            rw [if_neg (show ¬ nI p2 < nI j by rw [nI_ltI (by omega) (by omega)]; omega), ok_t (hk_t h5), pk_sub (show j ≤ l by omega), e5, d1, bd1_e, ok_t (hk_t h5), c_behind d3 b1 b2, bd1_e, x1, bd1_e, n3, nI_1]
          rw [lpf_go (body := fun a : Int32 × Int32 × Int32 × Int32 × px_M × px_L => f_X9_steerOfFirstWay_60 sh a.2.2.2.2.1 a.2.2.2.2.2 R (nI p2) (nI s) (nI l) C a.1 a.2.1 a.2.2.1 a.2.2.2.1) (a := (nI r', nI h', x8, nI j, Mx, Lx)) hbd]
          obtain ⟨z, Mz, Lz, t1, t2, t3, t4⟩ := ih (j + 1) r2 ((h' + trn r' + 72 - ws) % 72) (nI k) My Ly (by omega) n2 (Nat.mod_lt _ (by decide)) d3 ⟨r', h', k, b4, ⟨⟨d5, r2, d6, d7⟩, d8⟩, d6, rfl⟩ d7 (fun hm => by
            obtain rfl : j = p2 := by omega
            exact ⟨k, r', h', b4, ⟨⟨d5, r2, d6, d7⟩, d8⟩, rfl⟩)
          exact ⟨z, Mz, Lz, t1, t2, t3, d4.cf.tr t4⟩
        · rw [d6] at n1; cases n1
    obtain ⟨z, My, Ly, t1, ⟨k, r1', h1', t2, t3, t4⟩, t5, t6⟩ := loop (p2 + 1) 0 r h0 1 Mb La (by omega) hr hh g2 ⟨rfl, rfl⟩ l2 (fun hm => absurd hm (by omega))
    refine ⟨nI l, z, My, Ly, ?_, r2, Or.inr ⟨l, l1, rfl, hpl, k, r1', h1', t2, t3, t4⟩, t5, F.tr t6⟩
    rw [if_pos (show nI p2 < (nI l, Ma, La).1 from q), ok_t (ix_k k4 (by decide)), nI_clamp (show w < 2 ^ 31 by omega), h1, bd1_e, ok_t (hk_t h2)]
    show bd1 (f_X10_chartFor sh Ma R A (nI s)) _ = _
    rw [g1, bd1_e, show (C, Mb).2 14 1 = nI r from f1, nm_u, ok_t (ix_k k4 (by decide)), bd1_e, ok_t (hk_t h2)]
    show bd1 (f_X10_aheadOn sh Mb A (Mb 14 0) (Mb 14 2)) _ = _
    rw [f0, f2, ea, bd1_e]
    show bd1 (lpf (fun a : Int32 × Int32 × Int32 × Int32 × px_M × px_L => f_X9_steerOfFirstWay_60 sh a.2.2.2.2.1 a.2.2.2.2.2 R (nI p2) (nI s) (nI l) C a.1 a.2.1 a.2.2.1 a.2.2.2.1) (nI r, nI h0, 1, 0, Mb, La)) _ = _
    rw [show lpf (fun a : Int32 × Int32 × Int32 × Int32 × px_M × px_L => f_X9_steerOfFirstWay_60 sh a.2.2.2.2.1 a.2.2.2.2.2 R (nI p2) (nI s) (nI l) C a.1 a.2.1 a.2.2.1 a.2.2.2.1) (nI r, nI h0, 1, 0, Mb, La) = _ from t1, bd1_e]
  · exact ⟨y, -1, Ma, La, by rw [if_neg (show ¬ nI p2 < (y, Ma, La).1 from q)], r2, Or.inl ⟨q, rfl⟩, r3, r4⟩
end DAYS
