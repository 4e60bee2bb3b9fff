/-! least, late and window where the chart is there -/
theorem isFst_ex (P : Nat → Prop) : ∃ x, isFst P x := by
  by_cases h : ∃ d, d ≤ 40 ∧ P d
  · obtain ⟨d, ⟨h1, h2⟩, h3⟩ := pk_least (fun d => d ≤ 40 ∧ P d) h
    exact ⟨nI d, Or.inr ⟨d, h1, rfl, h2, fun e he hP => h3 e he ⟨by omega, hP⟩⟩⟩
  · exact ⟨-1, Or.inl ⟨rfl, fun d hd hP => h ⟨d, hd, hP⟩⟩⟩
theorem isFst.cg {P Q : Nat → Prop} {x : Int32} (h : isFst P x) (e : ∀ d, P d ↔ Q d) : isFst Q x := by
  rcases h with ⟨h1, h2⟩ | ⟨d, h1, h2, h3, h4⟩
  · exact Or.inl ⟨h1, fun d hd z => h2 d hd ((e d).mpr z)⟩
  · exact Or.inr ⟨d, h1, h2, (e d).mp h3, fun g hg z => h4 g hg ((e g).mpr z)⟩
theorem hA_hq {an ws r a d q : Nat} : (72 * r + (a + q * trn r) % 72) / 72 = r ∧ hA an ws (d + q) 0 (72 * r + (a + q * trn r) % 72) = hq an ws r a d q := by
  unfold hA hq
  rw [show d + q + 0 = d + q from rfl]
  obtain ⟨x, hx⟩ : ∃ x, x = a + q * trn r := ⟨_, rfl⟩
  obtain ⟨y, hy⟩ : ∃ y, y = an + ws * (d + q) := ⟨_, rfl⟩
  rw [← hx, ← hy]
  omega
section LATE
variable {sh : px_Sh} {M : px_M} {L : px_L} {R : px_R} {w wr an ws s D p0 d r a : Nat}
theorem m_ways (hS : SR sh R) (hs : s ≤ 20) (hws : ws ≤ 10) (hp0 : p0 < 18432) {M0 Mx : px_M} (hF : FL_ wr ws an D s p0 M0 Mx) {l p2 : Nat} (hl : l ≤ 40) (h34 : Mx 73 34 = nI l) (hp2 : p2 < l) :
    ∃ k r' h', lpf (fun a : Int32 × Int32 × Int32 => f_X12_least_115 sh Mx R (nI p2) (nI s) a.1 a.2.1 a.2.2) (nI p0, -1, 0) = some (nI k) ∧ Pth wr ws s l (p0 / 72) (hA an ws D 0 p0) p2 r' h' ∧ isSt wr ws s (l - (p2 + 1)) r' h' k := by
  obtain ⟨f1, f2, f3⟩ := hF
  have f3 := f3 l hl h34
  have h0 : Gd wr ws an D s l 0 p0 := by
    rcases f2 with ⟨z1, _⟩ | ⟨l', z1, z2, z3, _⟩
    · rw [h34] at z1; exact absurd z1 (nI_ne1 (by omega))
    · obtain rfl : l = l' := (nI_eq (by omega) (by omega)).mp (h34.symm.trans z2)
      exact z3
  have inner : ∀ (j p k : Nat), j < l → p < 18432 → Rc s p0 j p → isSt wr ws s (l - (j + 1)) (p / 72) (hA an ws D j p) k → lpf (fun a : Int32 => f_X12_least_124 sh Mx R (nI p2) (nI s) (nI p) a (nI j)) 0 = some (nI k) := by
    intro j p k hj hp hR hk
    obtain ⟨v1, v2, v3, v4⟩ := sr93 hS (show j + 1 < 41 by omega)
    have good : ∀ i, i < 3 → f_X12_least_124 sh Mx R (nI p2) (nI s) (nI p) (nI i) (nI j) = (match gt s p i with | none => some (.inl (nI (i + 1))) | some q => if Mx (136 + (j + 1)) q = 0 then some (.inl (nI (i + 1))) else some (.inr (nI i))) := by
      intro i hi
      unfold f_X12_least_124 f_X12_least_173
      have gn := gI_none (o := gt s p i) (fun q => gt_b hp)
      rw [e_goes hp hs hi, bd1_e, nI_1]
      cases hg : gt s p i with
      | none => rw [hg] at gn; rw [if_pos (gn.mpr rfl)]
      | some q =>
        have hq := gt_b hp hg
        rw [if_neg (fun z => by rw [hg] at gn; have := gn.mp z; cases this), nI_1, nm_u, ok_t (ix_k (show j + 1 < 41 by omega) (by decide)), nI_clamp (show j + 1 < 2 ^ 31 by omega), v2, bd1_e, bd1_e, show gI (some q) = nI q from rfl, ok_t (xk_t v4 (ix_k hq (by decide))), nI_clamp (show q < 2 ^ 31 by omega)]
    have gq : ∀ i q, i < 3 → gt s p i = some q → ∃ r', nxt s (p / 72) i = some r' ∧ (Mx (136 + (j + 1)) q ≠ 0 ↔ Dd wr ws s (l - (j + 1)) r' ((hA an ws D j p + trn (p / 72) + 72 - ws) % 72)) := by
      intro i q hi hg
      have hg' := hg
      unfold gt at hg'
      rw [Option.map_eq_some_iff] at hg'
      obtain ⟨r', g1, g2⟩ := hg'
      obtain ⟨e1, e2⟩ := hA_gt (an := an) (D := D) (t := j) hws (p := p) g2.symm
      refine ⟨r', g1, ?_⟩
      rw [f3 (j + 1) (by omega) q (gt_b hp hg)]
      unfold Gd
      rw [e1, e2]
      exact ⟨fun z => z.2, fun z => ⟨⟨p, i, hR, hi, hg⟩, z⟩⟩
    obtain ⟨⟨k3, r2, k4, k5⟩, k6⟩ := hk
    have loop : ∀ m i, i + m = k → lpf (fun a : Int32 => f_X12_least_124 sh Mx R (nI p2) (nI s) (nI p) a (nI j)) (nI i) = some (nI k) := by
      intro m
      induction m with
      | zero =>
        intro i hi
        obtain rfl : i = k := by omega
        apply lpf_end
        show f_X12_least_124 sh Mx R (nI p2) (nI s) (nI p) (nI i) (nI j) = _
        have hg : gt s p i = some (72 * r2 + (p % 72 + trn (p / 72)) % 72) := by unfold gt; rw [k4]; rfl
        obtain ⟨r', g1, g2⟩ := gq i _ k3 hg
        rw [k4] at g1
        obtain rfl := Option.some.inj g1
        rw [good i k3, hg]
        show (if _ = 0 then _ else _) = _
        rw [if_neg (g2.mpr k5)]
      | succ m ih =>
        intro i hi
        have hb : f_X12_least_124 sh Mx R (nI p2) (nI s) (nI p) (nI i) (nI j) = some (.inl (nI (i + 1))) := by
          rw [good i (by omega)]
          cases hg : gt s p i with
          | none => rfl
          | some q =>
            show (if _ = 0 then _ else _) = _
            obtain ⟨r', g1, g2⟩ := gq i q (by omega) hg
            rw [if_pos]
            exact Classical.byContradiction fun z => k6 i (by omega) r' g1 (g2.mp z)
        rw [lpf_go (body := fun a : Int32 => f_X12_least_124 sh Mx R (nI p2) (nI s) (nI p) a (nI j)) (a := nI i) hb]
        exact ih (i + 1) (by omega)
    exact loop k 0 (by omega)
  have loop : ∀ (m j p : Nat) (x5 : Int32), j + m = p2 + 1 → p < 18432 → Rc s p0 j p → Pth wr ws s l (p0 / 72) (hA an ws D 0 p0) j (p / 72) (hA an ws D j p) → Gd wr ws an D s (l - j) j p → (m = 0 → ∃ k r' h', x5 = nI k ∧ Pth wr ws s l (p0 / 72) (hA an ws D 0 p0) p2 r' h' ∧ isSt wr ws s (l - (p2 + 1)) r' h' k) →
      ∃ k r' h', lpf (fun a : Int32 × Int32 × Int32 => f_X12_least_115 sh Mx R (nI p2) (nI s) a.1 a.2.1 a.2.2) (nI p, x5, nI j) = some (nI k) ∧ Pth wr ws s l (p0 / 72) (hA an ws D 0 p0) p2 r' h' ∧ isSt wr ws s (l - (p2 + 1)) r' h' k := by
    intro m
    induction m with
    | zero =>
      intro j p x5 hj b1 b2 b3 b4 b5
      obtain ⟨k, r', h', rfl, c1, c2⟩ := b5 rfl
      refine ⟨k, r', h', lpf_end ?_, c1, c2⟩
      show f_X12_least_115 sh Mx R (nI p2) (nI s) (nI p) (nI k) (nI j) = _
      unfold f_X12_least_115
      rw [if_pos (nI_lt (by omega) (by omega))]
    | succ m ih =>
      intro j p x5 hj b1 b2 b3 b4 b5
      have e5 : l - j = (l - (j + 1)) + 1 := by omega
      have b4' := b4
      rw [e5] at b4'
      obtain ⟨k, hk⟩ := isSt_ex (wr := wr) (ws := ws) (s := s) b4'
      obtain ⟨⟨k3, r2, k4, k5⟩, k6⟩ := hk
      obtain ⟨q, hq⟩ : ∃ q, q = 72 * r2 + (p % 72 + trn (p / 72)) % 72 := ⟨_, rfl⟩
      have hg : gt s p k = some q := by unfold gt; rw [k4, hq]; rfl
      obtain ⟨e1, e2⟩ := hA_gt (an := an) (D := D) (t := j) hws (p := p) hq
      have hb : f_X12_least_115 sh Mx R (nI p2) (nI s) (nI p) x5 (nI j) = some (.inl (nI q, nI k, nI (j + 1))) := by
        unfold f_X12_least_115
        rw [if_neg (show ¬ nI p2 < nI j by rw [nI_ltI (by omega) (by omega)]; omega), inner j p k (by omega) b1 b2 ⟨⟨k3, r2, k4, k5⟩, k6⟩, bd1_e, e_goes b1 hs k3, hg, bd1_e, nI_1]
        rfl
      rw [lpf_go (body := fun a : Int32 × Int32 × Int32 => f_X12_least_115 sh Mx R (nI p2) (nI s) a.1 a.2.1 a.2.2) (a := (nI p, x5, nI j)) hb]
      refine ih (j + 1) q (nI k) (by omega) (gt_b b1 hg) ⟨p, k, b2, k3, hg⟩ ?_ ?_ (fun hm => ?_)
      · rw [e1, e2]
        exact ⟨p / 72, hA an ws D j p, k, b3, ⟨⟨k3, r2, k4, k5⟩, k6⟩, k4, rfl⟩
      · unfold Gd
        rw [e1, e2]; exact k5
      · obtain rfl : j = p2 := by omega
        exact ⟨k, p / 72, hA an ws D j p, rfl, b3, ⟨⟨k3, r2, k4, k5⟩, k6⟩⟩
  exact loop (p2 + 1) 0 p0 (-1) (by omega) hp0 rfl ⟨rfl, rfl⟩ h0 (fun hm => absurd hm (by omega))
theorem m_late {np nf : Nat} {pa fp : Nat → Nat} {M0 : px_M} (hS : SR sh R) (hA : SailI sh M0 R np nf pa fp) (h2 : sm_ sh 2 M0 M) (hs : s ≤ 20) (hv : vStr M0 pa np = nI s) (hw : w < 4) (hb : wr ≤ 255 ∧ an < 72 ∧ ws ≤ 10) (h90 : M 90 w = nI wr ∧ M 91 w = nI an ∧ M 92 w = nI ws) (hd : d ≤ 2000) (hr : r ≤ 255) (ha : a < 72) (e0 : M 73 24 = nI d) (e1 : M 73 25 = nI r) (e2 : M 73 26 = nI a) {q : Nat} (hq20 : q ≤ 20) :
    ∃ z M2, f_X12_lateBy sh M R (nI w) (nI q) = some (if z = -1 then -1 else nI q + z, M2) ∧ isFst (fun e => Dd wr ws s e r (hq an ws r a d q)) z ∧ eqF M M2 := by
  have tb := trn_b r
  have loop : ∀ (m i : Nat), i + m = q → lpf (fun b : Int32 × px_M => f_X12_lateBy_14 sh b.2 R (nI w) (nI q) (nI a) (nI d) b.1) (nI i, px_u M 73 26 (nI ((a + i * trn r) % 72))) = some (px_u M 73 26 (nI ((a + q * trn r) % 72))) := by
    intro m
    induction m with
    | zero =>
      intro i hi
      obtain rfl : i = q := by omega
      apply lpf_end
      show f_X12_lateBy_14 sh (px_u M 73 26 (nI ((a + i * trn r) % 72))) R (nI w) (nI i) (nI a) (nI d) (nI i) = _
      unfold f_X12_lateBy_14
      rw [if_pos (Int32.le_refl _)]
    | succ m ih =>
      intro i hi
      have hb : f_X12_lateBy_14 sh (px_u M 73 26 (nI ((a + i * trn r) % 72))) R (nI w) (nI q) (nI a) (nI d) (nI i) = some (.inl (nI (i + 1), px_u M 73 26 (nI ((a + (i + 1) * trn r) % 72)))) := by
        unfold f_X12_lateBy_14
        rw [if_neg (nI_ge (by omega) (by omega)), pu_n (by omega), e1, px_u_in, e_turnAt hr (by omega), bd1_e, nm_u, nI_1]
        congr 3
        have e : (a + (i + 1) * trn r) % 72 = ((a + i * trn r) % 72 + trn r) % 72 := by
          rw [Nat.mod_add_mod, Nat.add_mul, Nat.one_mul, Nat.add_assoc]
        rw [e]
        funext c j
        unfold px_u
        split <;> rfl
      rw [lpf_go (body := fun b : Int32 × px_M => f_X12_lateBy_14 sh b.2 R (nI w) (nI q) (nI a) (nI d) b.1) (a := (nI i, px_u M 73 26 (nI ((a + i * trn r) % 72)))) hb]
      exact ih (i + 1) (by omega)
  have start : M = px_u M 73 26 (nI ((a + 0 * trn r) % 72)) := by
    rw [Nat.zero_mul, Nat.add_zero, Nat.mod_eq_of_lt ha, ← e2]
    funext c j
    unfold px_u
    split
    next h => rw [h.1, h.2]
    next h => rfl
  have l0 := loop q 0 (by omega)
  rw [← start] at l0
  obtain ⟨aq, haq⟩ : ∃ aq, aq = (a + q * trn r) % 72 := ⟨_, rfl⟩
  rw [← haq] at l0
  have haq72 : aq < 72 := by rw [haq]; exact Nat.mod_lt _ (by decide)
  obtain ⟨Mb, hMb⟩ : ∃ Mb, Mb = px_u (px_u M 73 26 (nI aq)) 73 24 (nI (d + q)) := ⟨_, rfl⟩
  have sm : sm_ sh 2 M0 Mb := fun c j hc => by
    rw [hMb, pu_n (fun z => by rw [z.1, z.2] at hc; cases hc), pu_n (fun z => by rw [z.1, z.2] at hc; cases hc)]
    exact h2 c j hc
  obtain ⟨M2, f1, f2, f3, f4⟩ := m_find (M := Mb) (w := w) (wr := wr) (an := an) (ws := ws) (D := d + q) hS hs hr haq72 ⟨hw, hb, by rw [hMb]; simp (disch := omega) only [pu_n]; exact h90, by omega, by rw [hMb]; exact px_u_in _ _ _ _⟩ (by rw [hMb]; simp (disch := omega) only [pu_n]; exact e1) (by rw [hMb, pu_n (by omega)]; exact px_u_in _ _ _ _)
  refine ⟨M2 73 34, px_u (px_u M2 73 26 (nI a)) 73 24 (nI d), ?_, f3.cg fun e => ?_, fun c j c1 c2 c3 => ?_⟩
  · unfold f_X12_lateBy f_X12_lateBy_89
    rw [e2, nm_u, e0, nm_u, show lpf (fun b : Int32 × px_M => f_X12_lateBy_14 sh b.2 R (nI w) (nI q) (nI a) (nI d) b.1) (0, M) = _ from l0, bd1_e, pu_n (show ¬ ((73 : Nat) = 73 ∧ (24 : Nat) = 26) by omega), e0, nI_add, nm_u, nm_u, ← hMb, m_strength hA sm, hv, bd1_e, f1, bd1_e, nm_u, nm_u, pu_n (show ¬ ((73 : Nat) = 73 ∧ (34 : Nat) = 24) by omega), pu_n (show ¬ ((73 : Nat) = 73 ∧ (34 : Nat) = 26) by omega)]
    by_cases z : M2 73 34 = -1
    · rw [if_pos z, if_pos z]
    · rw [if_neg z, if_neg z]
  · unfold Gd
    obtain ⟨z1, z2⟩ := hA_hq (an := an) (ws := ws) (r := r) (a := a) (d := d) (q := q)
    rw [haq, z1, z2]
  · by_cases z1 : c = 73 ∧ j = 24
    · rw [z1.1, z1.2, px_u_in, e0]
    · by_cases z2 : c = 73 ∧ j = 26
      · rw [pu_n z1, z2.1, z2.2, px_u_in, e2]
      · rw [pu_n z1, pu_n z2, f2 c j c1 c2 c3, hMb, pu_n z1, pu_n z2]
end LATE
