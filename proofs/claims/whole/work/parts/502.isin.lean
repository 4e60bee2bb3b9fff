/-! the chart asked -/
def ChI (sh : px_Sh) (M : px_M) (L : px_L) (R : px_R) (a b wr ws s : Nat) : Prop := sh a = some (1, 0) ∧ R a 3 = some b ∧ sh b = some (14, 20992) ∧ M a 0 = nI ws ∧ M a 1 = nI s ∧ ws ≤ 10 ∧ s ≤ 20 ∧ ∃ k, M a 2 = nI k ∧ 1 ≤ k ∧ k ≤ 41 ∧ ∀ d, d < k → LayOK wr ws s d (L b)
def ChF (M : px_M) (L : px_L) (M' : px_M) (L' : px_L) (a b : Nat) : Prop := (∀ c j, ¬ (c = a ∧ j = 2) → M' c j = M c j) ∧ ∀ c, c ≠ b → L' c = L c
theorem ChF.rf {M : px_M} {L : px_L} {a b : Nat} : ChF M L M L a b := ⟨fun _ _ _ => rfl, fun _ _ => rfl⟩
theorem ChF.tr {M M' M2 : px_M} {L L' L2 : px_L} {a b : Nat} (h : ChF M L M' L' a b) (h2 : ChF M' L' M2 L2 a b) : ChF M L M2 L2 a b := ⟨fun c j q => (h2.1 c j q).trans (h.1 c j q), fun c q => (h2.2 c q).trans (h.2 c q)⟩
section CHART3
variable {sh : px_Sh} {M : px_M} {L : px_L} {R : px_R} {a b wr ws s : Nat}
theorem c_known {d : Nat} (hd : d ≤ 40) (x2 x3 : Int32) : ∀ (m k : Nat) (M : px_M) (L : px_L), d + 1 ≤ k + m → ChI sh M L R a b wr ws s → M a 2 = nI k → k ≤ 41 →
    ∃ M' L' k', lpf (fun a_ : px_M × px_L => f_X1_isIn_23 sh a_.1 a_.2 R a (nI d) x2 x3) (M, L) = some (M', L') ∧ ChI sh M' L' R a b wr ws s ∧ M' a 2 = nI k' ∧ d < k' ∧ k' ≤ 41 ∧ ChF M L M' L' a b := by
  intro m
  induction m with
  | zero =>
    intro k M L hm hI hk hk41
    refine ⟨M, L, k, lpf_end ?_, hI, hk, by omega, hk41, ChF.rf⟩
    show f_X1_isIn_23 sh M L R a (nI d) x2 x3 = _
    unfold f_X1_isIn_23
    rw [ok_t (hk_t hI.1), hk, if_pos (nI_lt (by omega) (by omega))]
  | succ m ih =>
    intro k M L hm hI hk hk41
    obtain ⟨h1, h2, h3, h4, h5, h6, h7, k', h8, h9, h10, h11⟩ := hI
    obtain rfl : k = k' := (nI_eq (by omega) (by omega)).mp (hk.symm.trans h8)
    by_cases q : d < k
    · refine ⟨M, L, k, lpf_end ?_, ⟨h1, h2, h3, h4, h5, h6, h7, k, h8, h9, h10, h11⟩, hk, q, hk41, ChF.rf⟩
      show f_X1_isIn_23 sh M L R a (nI d) x2 x3 = _
      unfold f_X1_isIn_23
      rw [ok_t (hk_t h1), hk, if_pos (nI_lt q (by omega))]
    · obtain ⟨e, rfl⟩ : ∃ e, k = e + 1 := ⟨k - 1, by omega⟩
      obtain ⟨L', g1, g2, g3, g4⟩ := c_work (M := M) (L := L) h1 h2 h3 h4 h5 h6 h7 (e := e) (by omega) (h11 e (by omega))
      have hb : f_X1_isIn_23 sh M L R a (nI d) x2 x3 = some (.inl (px_u M a 2 (nI (e + 1 + 1)), L')) := by
        unfold f_X1_isIn_23
        rw [ok_t (hk_t h1), hk, if_neg (show ¬ nI d < nI (e + 1) by rw [nI_ltI (by omega) (by omega)]; omega), ok_t (hk_t h1), ok_t (hk_t h1), g1, bd1_e, ok_t (hk_t h1), nI_1, nm_u, ok_t (hk_t h1), nm_u]
      rw [lpf_go (body := fun a_ : px_M × px_L => f_X1_isIn_23 sh a_.1 a_.2 R a (nI d) x2 x3) (a := (M, L)) hb]
      have hI' : ChI sh (px_u M a 2 (nI (e + 1 + 1))) L' R a b wr ws s := by
        refine ⟨h1, h2, h3, ?_, ?_, h6, h7, e + 1 + 1, px_u_in _ _ _ _, by omega, by omega, fun d hd => ?_⟩
        · rw [pu_n (by omega)]; exact h4
        · rw [pu_n (by omega)]; exact h5
        · by_cases q2 : d = e + 1
          · subst q2; exact g4
          · intro r hr
            rw [g3 _ (by omega), g3 _ (by omega)]; exact h11 d (by omega) r hr
      obtain ⟨M2, L2, k2, r1, r2, r3, r4, r5, r6⟩ := ih (e + 1 + 1) _ L' (by omega) hI' (px_u_in _ _ _ _) (by omega)
      exact ⟨M2, L2, k2, r1, r2, r3, r4, r5, ChF.tr ⟨fun c j hc => pu_n hc, g2⟩ r6⟩
theorem c_isIn (hI : ChI sh M L R a b wr ws s) {d r h : Nat} (hd : d ≤ 40) (hr : r ≤ 255) (hh : h < 72) :
    ∃ z M' L', f_X1_isIn sh M L R a (nI d) (nI r) (nI h) = some (z, M', L') ∧ (z = 0 ↔ ¬ Dd wr ws s d r h) ∧ ChI sh M' L' R a b wr ws s ∧ ChF M L M' L' a b := by
  obtain ⟨k, hk, -, hk41, -⟩ := hI.2.2.2.2.2.2.2
  obtain ⟨M', L', k', r1, r2, r3, r4, r5, r6⟩ := c_known hd (nI r) (nI h) 41 k M L (by omega) hI hk hk41
  have r2' := r2
  obtain ⟨h1, h2, h3, -, -, -, -, k'', h8, -, h10, h11⟩ := r2
  obtain rfl : k' = k'' := (nI_eq (by omega) (by omega)).mp (r3.symm.trans h8)
  obtain ⟨x, y, l1, l2, l3⟩ := (h11 d r4).row hr
  have w1 : f_X11_within (nI d) 0 40 = some 1 := by rw [e_within, bI_t ⟨nI_pos' (by omega), nI_le (b := 40) hd (by decide)⟩]
  have w2 : f_X11_within (nI r) 0 255 = some 1 := by rw [e_within, bI_t ⟨nI_pos' (by omega), nI_le (b := 255) hr (by decide)⟩]
  have ei : nI d * 512 + 2 * nI r = nI (512 * d + 2 * r) := by
    rw [show (512 : Int32) = nI 512 from rfl, pk_mul, show (2 : Int32) = nI 2 from rfl, pk_mul, nI_add]; congr 1; omega
  unfold f_X1_isIn f_X1_isIn_119
  rw [w1, bd1_e, if_neg (by decide), w2, bd1_e, if_neg (by decide), r1, bd1_e, ei, nm_u]
  by_cases q : h < 36
  · rw [if_neg (show ¬ 36 ≤ nI h from nI_ge (b := 36) q (by decide)), ok_t (hk_t h1), h2, bd1_e, ok_t (xk_t h3 (ix_k (show 512 * d + 2 * r < 20992 by omega) (by decide))), nI_clamp (by omega), show (M', L').2 b (512 * d + 2 * r) = lN x from l1, ifi (wb_bit (by have := l3.1.1; omega) (by omega)), ok_t zb1, ok_t zb0]
    by_cases t : x.testBit h = true
    · refine ⟨1, M', L', by rw [if_pos t], ?_, r2', r6⟩
      have := (l3.2.1 h q).mp t
      simp [this]
    · refine ⟨0, M', L', by rw [if_neg t], ?_, r2', r6⟩
      have : ¬ Dd wr ws s d r h := fun z => t ((l3.2.1 h q).mpr z)
      simp [this]
  · rw [if_pos (show 36 ≤ nI h from nI_le (a := 36) (by omega) (by omega)), ok_t (hk_t h1), h2, bd1_e, nI_1, nm_u, ok_t (xk_t h3 (ix_k (show 512 * d + 2 * r + 1 < 20992 by omega) (by decide))), nI_clamp (by omega), show (M', L').2 b (512 * d + 2 * r + 1) = lN y from l2, show (36 : Int32) = nI 36 from rfl, pk_sub (by omega), ifi (wb_bit (by have := l3.1.2; omega) (by omega)), ok_t zb1, ok_t zb0]
    have e2 : h - 36 + 36 = h := by omega
    have l4 := l3.2.2 (h - 36) (by omega)
    rw [e2] at l4
    by_cases t : y.testBit (h - 36) = true
    · refine ⟨1, M', L', by rw [if_pos t], ?_, r2', r6⟩
      have := l4.mp t
      simp [this]
    · refine ⟨0, M', L', by rw [if_neg t], ?_, r2', r6⟩
      have : ¬ Dd wr ws s d r h := fun z => t (l4.mpr z)
      simp [this]
theorem c_isIn_out {p2 p3 : Int32} {d : Nat} (hd : d ≤ 40) (h : ¬ (0 ≤ p2 ∧ p2 ≤ 255)) : f_X1_isIn sh M L R a (nI d) p2 p3 = some (0, M, L) := by
  have w1 : f_X11_within (nI d) 0 40 = some 1 := by rw [e_within, bI_t ⟨nI_pos' (by omega), nI_le (b := 40) hd (by decide)⟩]
  unfold f_X1_isIn f_X1_isIn_21
  rw [w1, bd1_e, if_neg (by decide), e_within, bI_f h, bd1_e, if_pos rfl]
/-- the first d up to 40, else -1 -/
def isFst (P : Nat → Prop) (x : Int32) : Prop := (x = -1 ∧ ∀ d, d ≤ 40 → ¬ P d) ∨ ∃ d, d ≤ 40 ∧ x = nI d ∧ P d ∧ ∀ e, e < d → ¬ P e
theorem isFst.uniq {P Q : Nat → Prop} {x y : Int32} (h : isFst P x) (h2 : isFst Q y) (e : ∀ d, d ≤ 40 → (P d ↔ Q d)) : x = y := by
  rcases h with ⟨rfl, h⟩ | ⟨d, h1, rfl, h3, h4⟩
  · rcases h2 with ⟨rfl, h2⟩ | ⟨d, k1, rfl, k3, k4⟩
    · rfl
    · exact absurd ((e d k1).mpr k3) (h d k1)
  · rcases h2 with ⟨rfl, h2⟩ | ⟨d2, k1, rfl, k3, k4⟩
    · exact absurd ((e d h1).mp h3) (h2 d h1)
    · have a1 : ¬ d < d2 := fun q => k4 d q ((e d h1).mp h3)
      have a2 : ¬ d2 < d := fun q => h4 d2 q ((e d2 k1).mpr k3)
      rw [show d = d2 by omega]
theorem c_fewest {r h : Nat} (hr : r ≤ 255) (hh : h < 72) (hI : ChI sh M L R a b wr ws s) :
    ∃ z M' L', f_X1_fewestFrom sh M L R a (nI r) (nI h) = some (z, M', L') ∧ isFst (fun d => Dd wr ws s d r h) z ∧ ChI sh M' L' R a b wr ws s ∧ ChF M L M' L' a b := by
  have loop : ∀ (m d : Nat) (M : px_M) (L : px_L), d + m = 41 → ChI sh M L R a b wr ws s → (∀ e, e < d → ¬ Dd wr ws s e r h) →
      (∃ z M' L', lpf (fun a_ : Int32 × px_M × px_L => f_X1_fewestFrom_2 sh a_.2.1 a_.2.2 R a (nI r) (nI h) a_.1) (nI d, M, L) = some (.inl (z, M', L')) ∧ isFst (fun d => Dd wr ws s d r h) z ∧ ChI sh M' L' R a b wr ws s ∧ ChF M L M' L' a b) ∨
      ∃ M' L', lpf (fun a_ : Int32 × px_M × px_L => f_X1_fewestFrom_2 sh a_.2.1 a_.2.2 R a (nI r) (nI h) a_.1) (nI d, M, L) = some (.inr (M', L')) ∧ (∀ d, d ≤ 40 → ¬ Dd wr ws s d r h) ∧ ChI sh M' L' R a b wr ws s ∧ ChF M L M' L' a b := by
    intro m
    induction m with
    | zero =>
      intro d M L hd hI hn
      obtain rfl : d = 41 := by omega
      refine Or.inr ⟨M, L, lpf_end ?_, fun d hd => hn d (by omega), hI, ChF.rf⟩
      show f_X1_fewestFrom_2 sh M L R a (nI r) (nI h) (nI 41) = _
      unfold f_X1_fewestFrom_2
      rw [if_pos (by decide)]
    | succ m ih =>
      intro d M L hd hI hn
      obtain ⟨z, M', L', g1, g2, g3, g4⟩ := c_isIn hI (d := d) (by omega) hr hh
      have hb : f_X1_fewestFrom_2 sh M L R a (nI r) (nI h) (nI d) = if z = 0 then some (.inl (nI (d + 1), M', L')) else some (.inr (.inl (nI d, M', L'))) := by
        unfold f_X1_fewestFrom_2
        rw [if_neg (show ¬ 40 < nI d by rw [show (40 : Int32) = nI 40 from rfl, nI_ltI (by decide) (by omega)]; omega), ok_t (hk_t hI.1), g1, bd1_e, nI_1]
      by_cases q : z = 0
      · rw [if_pos q] at hb
        rw [lpf_go (body := fun a_ : Int32 × px_M × px_L => f_X1_fewestFrom_2 sh a_.2.1 a_.2.2 R a (nI r) (nI h) a_.1) (a := (nI d, M, L)) hb]
        have hn' : ∀ e, e < d + 1 → ¬ Dd wr ws s e r h := fun e he => by
          by_cases q2 : e = d
          · rw [q2]; exact g2.mp q
          · exact hn e (by omega)
        rcases ih (d + 1) M' L' (by omega) g3 hn' with ⟨z, M2, L2, r1, r2, r3, r4⟩ | ⟨M2, L2, r1, r2, r3, r4⟩
        · exact Or.inl ⟨z, M2, L2, r1, r2, r3, g4.tr r4⟩
        · exact Or.inr ⟨M2, L2, r1, r2, r3, g4.tr r4⟩
      · rw [if_neg q] at hb
        refine Or.inl ⟨nI d, M', L', lpf_end hb, Or.inr ⟨d, by omega, rfl, ?_, hn⟩, g3, g4⟩
        exact Classical.byContradiction fun z2 => q (g2.mpr z2)
  unfold f_X1_fewestFrom
  rcases loop 41 0 M L (by omega) hI (fun e he => absurd he (by omega)) with ⟨z, M2, L2, r1, r2, r3, r4⟩ | ⟨M2, L2, r1, r2, r3, r4⟩
  · rw [show lpf (fun a_ : Int32 × px_M × px_L => f_X1_fewestFrom_2 sh a_.2.1 a_.2.2 R a (nI r) (nI h) a_.1) (0, M, L) = _ from r1]
    exact ⟨z, M2, L2, rfl, r2, r3, r4⟩
  · rw [show lpf (fun a_ : Int32 × px_M × px_L => f_X1_fewestFrom_2 sh a_.2.1 a_.2.2 R a (nI r) (nI h) a_.1) (0, M, L) = _ from r1]
    exact ⟨-1, M2, L2, rfl, Or.inl ⟨rfl, r2⟩, r3, r4⟩
theorem c_behind (hI : ChI sh M L R a b wr ws s) {r h : Nat} (hr : r ≤ 255) (hh : h < 72) : f_X1_aheadBehind sh M a (nI r) (nI h) = some (nI ((h + trn r + 72 - ws) % 72)) := by
  have tb := trn_b r
  have := hI.2.2.2.2.2.1
  unfold f_X1_aheadBehind
  rw [e_turn hr, bd1_e, ok_t (hk_t hI.1), hI.2.2.2.1, nI_add, e_fm (by omega) (by omega), bd1_e]
/-- a steer that is the first to serve -/
def isSt (wr ws s d r h k : Nat) : Prop := (k < 3 ∧ ∃ r', nxt s r k = some r' ∧ Dd wr ws s d r' ((h + trn r + 72 - ws) % 72)) ∧ ∀ j, j < k → ∀ r', nxt s r j = some r' → ¬ Dd wr ws s d r' ((h + trn r + 72 - ws) % 72)
theorem e_rho {r s k : Nat} (hr : r ≤ 255) (hs : s ≤ 20) (hk : k < 3) : ∃ x, f_X11_rhoBehind (nI r) (nI k) (nI s) = some x ∧ ((∃ r', nxt s r k = some r' ∧ r' ≤ 255 ∧ x = nI r') ∨ (nxt s r k = none ∧ ¬ (0 ≤ x ∧ x ≤ 255))) := by
  have sb := stp_b (r := r) hs
  unfold f_X11_rhoBehind nxt
  rw [e_step hr hs, bd1_e]
  refine ⟨_, rfl, ?_⟩
  obtain rfl | rfl | rfl : k = 0 ∨ k = 1 ∨ k = 2 := by omega
  · rw [if_pos rfl, show nI r + (nI 0 - 1) * nI (stp s r) = nI r - nI (stp s r) by rw [show nI 0 = (0 : Int32) from rfl]; grind]
    by_cases q : stp s r ≤ r
    · rw [if_pos q]; exact Or.inl ⟨_, rfl, by omega, pk_sub q⟩
    · rw [if_neg q]
      exact Or.inr ⟨rfl, fun z => absurd z.1 (Int32.not_le.mpr (pk_sneg (by omega) (by omega)))⟩
  · rw [if_neg (by decide), if_pos rfl, show nI r + (nI 1 - 1) * nI (stp s r) = nI r by rw [show nI 1 = (1 : Int32) from rfl]; grind]
    exact Or.inl ⟨r, rfl, hr, rfl⟩
  · rw [if_neg (by decide), if_neg (by decide), show nI r + (nI 2 - 1) * nI (stp s r) = nI (r + stp s r) by rw [← nI_add, show nI 2 = (2 : Int32) from rfl]; grind]
    by_cases q : r + stp s r ≤ 255
    · rw [if_pos q]; exact Or.inl ⟨_, rfl, q, rfl⟩
    · rw [if_neg q]
      exact Or.inr ⟨rfl, fun z => absurd z.2 (nI_ge (a := 255) (by omega) (by omega))⟩
theorem c_steer {d r h : Nat} (hd : d ≤ 39) (hr : r ≤ 255) (hh : h < 72) (hI : ChI sh M L R a b wr ws s) (hD : Dd wr ws s (d + 1) r h) :
    ∃ k M' L', f_X1_firstSteer sh M L R a (nI r) (nI h) (nI (d + 1)) = some (nI k, M', L') ∧ isSt wr ws s d r h k ∧ ChI sh M' L' R a b wr ws s ∧ ChF M L M' L' a b := by
  have hs := hI.2.2.2.2.2.2.1
  have hh2 : (h + trn r + 72 - ws) % 72 < 72 := Nat.mod_lt _ (by decide)
  have hD' : ∃ k, k < 3 ∧ ∃ r', nxt s r k = some r' ∧ Dd wr ws s d r' ((h + trn r + 72 - ws) % 72) := hD
  obtain ⟨H, hH⟩ : ∃ H, H = (h + trn r + 72 - ws) % 72 := ⟨_, rfl⟩
  have loop : ∀ (m k : Nat) (M : px_M) (L : px_L), k + m = 2 → ChI sh M L R a b wr ws s → (∀ j, j < k → ∀ r', nxt s r j = some r' → ¬ Dd wr ws s d r' H) →
      ∃ g M' L', lpf (fun a_ : Int32 × px_M × px_L => f_X1_firstSteer_11 sh a_.2.1 a_.2.2 R a (nI r) (nI (d + 1)) a_.1 (nI H)) (nI k, M, L) = some (nI g, M', L') ∧ isSt wr ws s d r h g ∧ ChI sh M' L' R a b wr ws s ∧ ChF M L M' L' a b := by
    intro m
    induction m with
    | zero =>
      intro k M L hk hI hn
      obtain rfl : k = 2 := by omega
      refine ⟨2, M, L, lpf_end ?_, ⟨⟨by decide, ?_⟩, by rw [← hH]; exact hn⟩, hI, ChF.rf⟩
      · show f_X1_firstSteer_11 sh M L R a (nI r) (nI (d + 1)) (nI 2) (nI H) = _
        unfold f_X1_firstSteer_11
        rw [if_pos (by decide)]
      · obtain ⟨k, k1, r', k2, k3⟩ := hD'
        by_cases q : k = 2
        · subst q; exact ⟨r', k2, k3⟩
        · exact absurd (by rw [hH]; exact k3) (hn k (by omega) r' k2)
    | succ m ih =>
      intro k M L hk hI hn
      obtain ⟨x, x1, x2⟩ := e_rho (r := r) (s := s) (k := k) hr hs (by omega)
      have hb : f_X1_firstSteer_11 sh M L R a (nI r) (nI (d + 1)) (nI k) (nI H) = bd1 (f_X1_isIn sh M L R a (nI d) x (nI H)) fun e => if e.1 = 0 then some (.inl (nI (k + 1), e.2.1, e.2.2)) else some (.inr (nI k, e.2.1, e.2.2)) := by
        unfold f_X1_firstSteer_11
        rw [if_neg (show ¬ 2 ≤ nI k from nI_ge (b := 2) (by omega) (by decide)), ok_t (hk_t hI.1), hI.2.2.2.2.1, x1, bd1_e, ok_t (hk_t hI.1), show nI (d + 1) - 1 = nI d from pk_sub (a := d + 1) (b := 1) (by omega), nI_1]
      rcases x2 with ⟨r', n1, n2, rfl⟩ | ⟨n1, n2⟩
      · obtain ⟨z, M', L', g1, g2, g3, g4⟩ := c_isIn hI (d := d) (h := H) (by omega) n2 (by rw [hH]; exact hh2)
        rw [g1, bd1_e] at hb
        by_cases q : z = 0
        · rw [if_pos q] at hb
          rw [lpf_go (body := fun a_ : Int32 × px_M × px_L => f_X1_firstSteer_11 sh a_.2.1 a_.2.2 R a (nI r) (nI (d + 1)) a_.1 (nI H)) (a := (nI k, M, L)) hb]
          obtain ⟨k2, M2, L2, r1, r2, r3, r4⟩ := ih (k + 1) M' L' (by omega) g3 (fun j hj r2 hr2 => by
            by_cases q2 : j = k
            · subst q2
              rw [n1] at hr2
              rw [← Option.some.inj hr2]; exact g2.mp q
            · exact hn j (by omega) r2 hr2)
          exact ⟨k2, M2, L2, r1, r2, r3, g4.tr r4⟩
        · rw [if_neg q] at hb
          refine ⟨k, M', L', lpf_end hb, ⟨⟨by omega, r', n1, ?_⟩, by rw [← hH]; exact hn⟩, g3, g4⟩
          rw [← hH]
          exact Classical.byContradiction fun z2 => q (g2.mpr z2)
      · rw [c_isIn_out (by omega) n2, bd1_e, if_pos rfl] at hb
        rw [lpf_go (body := fun a_ : Int32 × px_M × px_L => f_X1_firstSteer_11 sh a_.2.1 a_.2.2 R a (nI r) (nI (d + 1)) a_.1 (nI H)) (a := (nI k, M, L)) hb]
        exact ih (k + 1) M L (by omega) hI (fun j hj r2 hr2 => by
            by_cases q2 : j = k
            · subst q2
              rw [n1] at hr2; cases hr2
            · exact hn j (by omega) r2 hr2)
  obtain ⟨k, M', L', r1, r2, r3, r4⟩ := loop 2 0 M L (by omega) hI (fun j hj => absurd hj (by omega))
  refine ⟨k, M', L', ?_, r2, r3, r4⟩
  unfold f_X1_firstSteer
  rw [ok_t (hk_t hI.1), c_behind hI hr hh, bd1_e, ← hH, show lpf (fun a_ : Int32 × px_M × px_L => f_X1_firstSteer_11 sh a_.2.1 a_.2.2 R a (nI r) (nI (d + 1)) a_.1 (nI H)) (0, M, L) = _ from r1, bd1_e]
end CHART3
