/-! least and window, the chart being there -/
theorem hA_h0 {an ws r a d : Nat} (ha : a < 72) : (72 * r + a) / 72 = r ∧ hA an ws d 0 (72 * r + a) = hq an ws r a d 0 := by
  have := hA_hq (an := an) (ws := ws) (r := r) (a := a) (d := d) (q := 0)
  rw [Nat.zero_mul, Nat.add_zero, Nat.mod_eq_of_lt ha] at this
  exact this
/-- one waiting more -/
def wS (Z : Nat → Int32) (q : Nat) (s : Int32 × Int32) : Int32 × Int32 := if Z q = -1 then s else if s.1 = -1 then (nI q, nI q + Z q) else if s.2 ≤ nI q + Z q then s else (nI q, nI q + Z q)
theorem wS_eq (Z : Nat → Int32) : ∀ (m q : Nat) (s t : Int32 × Int32), q + m < 2 ^ 31 → s.1 = t.1 → (s.1 = -1 ∨ s.2 = t.2) → (fld (wS Z) q m s).1 = (fld (wS Z) q m t).1
  | 0, q, s, t, hm, h1, h2 => h1
  | m + 1, q, s, t, hm, h1, h2 => by
    show (fld (wS Z) (q + 1) m (wS Z q s)).1 = (fld (wS Z) (q + 1) m (wS Z q t)).1
    have hne : ¬ nI q = -1 := nI_ne1 (by omega)
    apply wS_eq Z m (q + 1)
    · omega
    · unfold wS
      rw [← h1]
      split
      · exact h1
      · split
        · rfl
        · next g => rw [← h2.resolve_left g]; split
                    · exact h1
                    · rfl
    · unfold wS
      rw [← h1]
      split
      · exact h2
      · split
        · exact Or.inr rfl
        · next g => rw [← h2.resolve_left g]; split
                    · exact Or.inr (h2.resolve_left g)
                    · exact Or.inr rfl
section WINDOW
variable {sh : px_Sh} {M : px_M} {L : px_L} {R : px_R} {nw d r a nd np nf : Nat} {wa ch ly pa fp : Nat → Nat}
theorem c_best {w A C Y wr an ws s : Nat} (h : WC sh M L R w A C Y wr an ws) (hs : s ≤ 20) (hd : d ≤ 2000) (hr : r ≤ 255) (ha : a < 72) (e0 : M 14 0 = nI d) (e1 : M 14 1 = nI r) (e2 : M 14 2 = nI a) {Z : Nat → Int32} (hZ : ∀ q, isFst (fun e => Dd wr ws s e r (hq an ws r a d q)) (Z q)) :
    ∀ (m q : Nat) (x3 x4 : Int32) (Mx : px_M) (Lx : px_L), q + m = 21 → CF M L Mx Lx C Y → CL wr ws (Mx C 1) (Mx C 2) (Lx Y) → ∃ My Ly, lpf (fun b : Int32 × Int32 × Int32 × px_M × px_L => f_X9_bestWaiting_8 sh b.2.2.2.1 b.2.2.2.2 R (nI w) (nI s) b.1 b.2.1 b.2.2.1) (x3, x4, nI q, Mx, Lx) = some ((fld (wS Z) q m (x3, x4)).1, My, Ly) ∧ CF M L My Ly C Y ∧ CL wr ws (My C 1) (My C 2) (Ly Y) := by
  have hC := h.1.2.2.2.2.2.1
  intro m
  induction m with
  | zero =>
    intro q x3 x4 Mx Lx hm b1 b2
    obtain rfl : q = 21 := by omega
    refine ⟨Mx, Lx, lpf_end ?_, b1, b2⟩
    show f_X9_bestWaiting_8 sh Mx Lx R (nI w) (nI s) x3 x4 (nI 21) = _
    unfold f_X9_bestWaiting_8
    rw [if_pos (by decide)]
    rfl
  | succ m ih =>
    intro q x3 x4 Mx Lx hm b1 b2
    obtain ⟨z, My, Ly, g1, g2, g3, g4⟩ := c_days (q := q) (d := d) (r := r) (a := a) (h.up b1 b2) hs (by omega) hd hr ha (by rw [b1.1 14 0 (by omega)]; exact e0) (by rw [b1.1 14 1 (by omega)]; exact e1) (by rw [b1.1 14 2 (by omega)]; exact e2)
    obtain rfl : z = Z q := g2.uniq (hZ q) (fun _ _ => Iff.rfl)
    have hb : f_X9_bestWaiting_8 sh Mx Lx R (nI w) (nI s) x3 x4 (nI q) = some (.inl ((wS Z q (x3, x4)).1, (wS Z q (x3, x4)).2, nI (q + 1), My, Ly)) := by
      unfold f_X9_bestWaiting_8 f_X9_bestWaiting_56 f_X9_bestWaiting_46 f_X9_bestWaiting_56 wS
      rw [if_neg (show ¬ 20 < nI q by rw [show (20 : Int32) = nI 20 from rfl, nI_ltI (by decide) (by omega)]; omega), g1, bd1_e, nI_1, nm_u]
      by_cases k1 : Z q = -1
      · rw [if_pos (show (Z q, My, Ly).1 = -1 from k1), if_pos k1]
      · rw [if_neg (show ¬ (Z q, My, Ly).1 = -1 from k1), if_neg k1]
        by_cases k2 : x3 = -1
        · rw [if_pos k2, if_pos (show (x3, x4).1 = -1 from k2)]
        · rw [if_neg k2, if_neg (show ¬ (x3, x4).1 = -1 from k2)]
          by_cases k3 : x4 ≤ nI q + Z q
          · rw [if_pos (show x4 ≤ nI q + (Z q, My, Ly).1 from k3), if_pos (show (x3, x4).2 ≤ nI q + Z q from k3)]
          · rw [if_neg (show ¬ x4 ≤ nI q + (Z q, My, Ly).1 from k3), if_neg (show ¬ (x3, x4).2 ≤ nI q + Z q from k3)]
    rw [lpf_go (body := fun b : Int32 × Int32 × Int32 × px_M × px_L => f_X9_bestWaiting_8 sh b.2.2.2.1 b.2.2.2.2 R (nI w) (nI s) b.1 b.2.1 b.2.2.1) (a := (x3, x4, nI q, Mx, Lx)) hb]
    exact ih (q + 1) _ _ My Ly (by omega) (b1.tr g4) g3.cl
theorem p_window (hI : WI sh M L R nw wa ch ly) (hV : VI M nw d r a nd) (hA : SailI sh M R np nf pa fp) (hS : SR sh R) (p1 : Int32) :
    (∃ w, w < nw ∧ p1 = nI w ∧ R (wa w) 3 = none) ∨
    (∃ q M1 L1 M2, f_X11_window sh M L R p1 = some (.inl (q, M1, L1)) ∧ f_X12_window sh M1 R p1 = some (q, M2) ∧ FrV sh M L R M2 L1 nw wa ch ly d r a nd) ∨ (f_X11_window sh M L R p1 = some (.inr 2) ∧ f_X12_window sh M R p1 = some (0, px_t M 1)) := by
  have hI' := hI
  have hV' := hV
  obtain ⟨h1, h2, h3, h4, h5⟩ := hI
  obtain ⟨v1, v2, -, -, -⟩ := hV
  rcases rng p1 (k := nw) (by omega) with ⟨w, hw, rfl, w1, w2⟩ | ⟨-, w1, w2⟩
  · by_cases hR : R (wa w) 3 = none
    · exact Or.inl ⟨w, hw, rfl, hR⟩
    · right; left
      obtain ⟨wr, an, ws, hC⟩ := hI'.wc hw hR
      obtain ⟨s, hs, hv⟩ := cl20_r (sY M pa np 3 / 100)
      have hv : vStr M pa np = nI s := hv
      obtain ⟨Z, hZ⟩ : ∃ Z : Nat → Int32, ∀ q, isFst (fun e => Dd wr ws s e r (hq an ws r a d q)) (Z q) := ⟨fun q => Classical.choose (isFst_ex (fun e => Dd wr ws s e r (hq an ws r a d q))), fun q => Classical.choose_spec (isFst_ex (fun e => Dd wr ws s e r (hq an ws r a d q)))⟩
      obtain ⟨M1, L1, c1, c2, c3⟩ := c_best hC hs v1.2.1 v1.2.2.1 v1.2.2.2.1 v2.2.2.1 v2.2.2.2.2.1 v2.2.2.2.2.2.2.1 hZ 21 0 (-1) (-1) M L (by omega) CF.rf hC.2.2.1.2
      have hC6 := hC.1.2.2.2.2.2.1
      have loop : ∀ (m q : Nat) (x2 x3 : Int32) (Mx : px_M), q + m = 21 → eqF (px_u M1 73 0 0) Mx → ∃ My, lpf (fun b : Int32 × Int32 × Int32 × px_M => f_X12_window_41 sh b.2.2.2 R (nI w) b.1 b.2.1 b.2.2.1) (x2, x3, nI q, Mx) = some ((fld (wS Z) q m (x2, x3)).1, My) ∧ eqF (px_u M1 73 0 0) My := by
        intro m
        induction m with
        | zero =>
          intro q x2 x3 Mx hm b1
          obtain rfl : q = 21 := by omega
          refine ⟨Mx, lpf_end ?_, b1⟩
          show f_X12_window_41 sh Mx R (nI w) x2 x3 (nI 21) = _
          unfold f_X12_window_41
          rw [if_pos (by decide)]
          rfl
        | succ m ih =>
          intro q x2 x3 Mx hm b1
          have e73 : ∀ j, 1 ≤ j → j ≠ 34 → Mx 73 j = M 73 j := fun j hj hj2 => by rw [b1 73 j (by omega) (by omega) (by omega), pu_n (by omega), c2.1 73 j (by omega)]
          have e90 : ∀ c, 90 ≤ c → c ≤ 92 → Mx c w = M c w := fun c k1 k2 => by rw [b1 c w (by omega) (by omega) (by omega), pu_n (by omega), c2.1 c w (by omega)]
          have sm : sm_ sh 2 M Mx := fun c j hc => by
            have hz := c2.sm2 (sh := sh) ⟨hC6, hC.1.2.2.2.2.1⟩ c j hc
            rw [← hz]
            apply b1
            · intro k
              unfold md at hc
              rw [if_pos (by omega), if_neg (by omega), mdc_row c (by omega) (by omega)] at hc
              cases hc
            · intro k
              unfold md at hc
              rw [if_pos (by omega), if_neg (by omega), mdc_row c (by omega) (by omega)] at hc
              cases hc
            · rintro ⟨rfl, rfl⟩
              cases hc
          obtain ⟨z2, My, g1, g2, g3⟩ := m_late (M := Mx) (w := w) (wr := wr) (an := an) (ws := ws) (d := d) (r := r) (a := a) (q := q) hS hA sm hs hv hC.2.2.2.1 hC.2.2.2.2.1 (by rw [e90 90 (by omega) (by omega), e90 91 (by omega) (by omega), e90 92 (by omega) (by omega)]; exact hC.2.2.2.2.2) v1.2.1 v1.2.2.1 v1.2.2.2.1 (by rw [e73 24 (by omega) (by omega)]; exact v2.2.2.2.1) (by rw [e73 25 (by omega) (by omega)]; exact v2.2.2.2.2.2.1) (by rw [e73 26 (by omega) (by omega)]; exact v2.2.2.2.2.2.2.2.1) (by omega)
          have b2 : eqF (px_u M1 73 0 0) My := fun c j k1 k2 k3 => (g3 c j k1 k2 k3).trans (b1 c j k1 k2 k3)
          obtain rfl : z2 = Z q := g2.uniq (hZ q) (fun _ _ => Iff.rfl)
          have hb : f_X12_window_41 sh Mx R (nI w) x2 x3 (nI q) = some (.inl ((wS Z q (x2, x3)).1, (wS Z q (x2, x3)).2, nI (q + 1), My)) := by
            unfold f_X12_window_41 f_X12_window_77 f_X12_window_83 wS
            rw [if_neg (show ¬ 20 < nI q by rw [show (20 : Int32) = nI 20 from rfl, nI_ltI (by decide) (by omega)]; omega), g1, bd1_e, nI_1]
            by_cases k1 : Z q = -1
            · rw [if_pos k1, if_pos k1]
              rw [if_pos (show ((-1 : Int32), My).1 = -1 from rfl)]
            · rw [if_neg k1, if_neg k1]
              have hne : ¬ nI q + Z q = -1 := by
                rcases hZ q with ⟨k, _⟩ | ⟨l, l1, l2, _⟩
                · exact absurd k k1
                · rw [l2, nI_add]; exact nI_ne1 (by omega)
              rw [if_neg (show ¬ (nI q + Z q, My).1 = -1 from hne)]
              by_cases k2 : x2 = -1
              · rw [if_pos k2, if_pos (show (x2, x3).1 = -1 from k2)]
              · rw [if_neg k2, if_neg (show ¬ (x2, x3).1 = -1 from k2)]
                by_cases k3 : x3 ≤ nI q + Z q
                · rw [if_neg (show ¬ (nI q + Z q, My).1 < x3 from Int32.not_lt.mpr k3), if_pos (show (x2, x3).2 ≤ nI q + Z q from k3)]
                · rw [if_pos (show (nI q + Z q, My).1 < x3 from Int32.not_le.mp k3), if_neg (show ¬ (x2, x3).2 ≤ nI q + Z q from k3)]
          rw [lpf_go (body := fun b : Int32 × Int32 × Int32 × px_M => f_X12_window_41 sh b.2.2.2 R (nI w) b.1 b.2.1 b.2.2.1) (a := (x2, x3, nI q, Mx)) hb]
          exact ih (q + 1) _ _ My (by omega) b2
      obtain ⟨M2, g1, g2⟩ := loop 21 0 (-1) 0 (px_u M1 73 0 0) (by omega) (fun _ _ _ _ _ => rfl)
      have e27 : (px_u M1 73 0 0) 73 27 = nI nw := by rw [pu_n (by omega), c2.1 73 27 (by omega)]; exact h2.2
      refine ⟨(fld (wS Z) 0 21 (-1, -1)).1, M1, L1, M2, ?_, ?_, hI'.fin hV' hw hC c2 c3 g2⟩
      · unfold f_X11_window f_X9_hasWorld f_X11_window_11 f_X9_bestWaiting
        rw [h2.1, w1, bd1_e, ok_t zb1, bd1_e, if_neg (by decide), c_strength hA, hv, bd1_e, show lpf (fun b : Int32 × Int32 × Int32 × px_M × px_L => f_X9_bestWaiting_8 sh b.2.2.2.1 b.2.2.2.2 R (nI w) (nI s) b.1 b.2.1 b.2.2.1) (-1, -1, 0, M, L) = _ from c1, bd1_e, bd1_e, bd1_e]
      · unfold f_X12_window f_X12_window_25
        rw [nm_u, e27, w2, bd1_e, if_neg (by decide), e_bf, bd1_e, if_pos rfl]
        show bd1 (lpf (fun b : Int32 × Int32 × Int32 × px_M => f_X12_window_41 sh b.2.2.2 R (nI w) b.1 b.2.1 b.2.2.1) (-1, 0, 0, px_u M1 73 0 0)) _ = _
        rw [show lpf (fun b : Int32 × Int32 × Int32 × px_M => f_X12_window_41 sh b.2.2.2 R (nI w) b.1 b.2.1 b.2.2.1) (-1, 0, 0, px_u M1 73 0 0) = _ from g1, bd1_e, wS_eq Z 21 0 (-1, -1) (-1, 0) (by decide) rfl (Or.inl rfl)]
  · right; right
    have e27 : (px_u M 73 0 0) 73 27 = nI nw := h2.2
    unfold f_X11_window f_X9_hasWorld f_X12_window f_X12_window_25
    refine ⟨?_, ?_⟩
    · rw [h2.1, w1, bd1_e, ok_t zb0, bd1_e, if_pos rfl]
    · rw [nm_u, e27, w2, bd1_e, if_pos rfl, e_bt (by decide), bd1_e, if_neg (show ¬ (1 : Int32) = 0 by decide)]
theorem p_least (hI : WI sh M L R nw wa ch ly) (hV : VI M nw d r a nd) (hA : SailI sh M R np nf pa fp) (hS : SR sh R) (p1 p2 : Int32) :
    (∃ w, w < nw ∧ p1 = nI w ∧ R (wa w) 3 = none ∧ -1 ≤ p2 ∧ p2 ≤ 39) ∨
    (∃ q M1 L1 M2, f_X11_least sh M L R p1 p2 = some (.inl (q, M1, L1)) ∧ f_X12_least sh M1 R p1 p2 = some (q, M2) ∧ FrV sh M L R M2 L1 nw wa ch ly d r a nd) ∨ (f_X11_least sh M L R p1 p2 = some (.inr 2) ∧ f_X12_least sh M R p1 p2 = some (0, px_t M 1)) ∨ (f_X11_least sh M L R p1 p2 = some (.inr 0) ∧ f_X12_least sh M R p1 p2 = some (0, px_t M 2)) := by
  have hI' := hI
  have hV' := hV
  obtain ⟨h1, h2, h3, h4, h5⟩ := hI
  obtain ⟨v1, v2, -, -, -⟩ := hV
  rcases rng p1 (k := nw) (by omega) with ⟨w, hw, rfl, w1, w2⟩ | ⟨-, w1, w2⟩
  · by_cases hc : -1 ≤ p2 ∧ p2 ≤ 39
    · by_cases hR : R (wa w) 3 = none
      · exact Or.inl ⟨w, hw, rfl, hR, hc⟩
      · right; left
        obtain ⟨wr, an, ws, hC⟩ := hI'.wc hw hR
        obtain ⟨s, hs, hv⟩ := cl20_r (sY M pa np 3 / 100)
        have hv : vStr M pa np = nI s := hv
        have hC6 := hC.1.2.2.2.2.2.1
        obtain ⟨a1, a2⟩ := hA_h0 (an := an) (ws := ws) (r := r) (d := d) v1.2.2.2.1
        -- the reference behind any memory that the class leaves
        have ref : ∀ M1 L1, CF M L M1 L1 (ch w) (ly w) → ∃ M2, f_X12_findLeast sh (px_u M1 73 0 0) R (nI w) (nI s) = some M2 ∧ FL_ wr ws an d s (72 * r + a) (px_u M1 73 0 0) M2 ∧
            (p2 = -1 → f_X12_least sh M1 R (nI w) p2 = some (M2 73 34, M2)) ∧ (¬ p2 = -1 → f_X12_least sh M1 R (nI w) p2 = if p2 < M2 73 34 then bd1 (lpf (fun b : Int32 × Int32 × Int32 => f_X12_least_115 sh M2 R p2 (nI s) b.1 b.2.1 b.2.2) (nI (72 * r + a), -1, 0)) fun e => some (e, M2) else some (-1, M2)) := by
          intro M1 L1 hF
          have e73 : ∀ j, 1 ≤ j → (px_u M1 73 0 0) 73 j = M 73 j := fun j hj => by rw [pu_n (by omega), hF.1 73 j (by omega)]
          have e90 : ∀ c, 90 ≤ c → c ≤ 92 → (px_u M1 73 0 0) c w = M c w := fun c k1 k2 => by rw [pu_n (by omega), hF.1 c w (by omega)]
          obtain ⟨M2, f1, f2⟩ := m_find (M := px_u M1 73 0 0) (w := w) (wr := wr) (an := an) (ws := ws) (D := d) (r := r) (a := a) hS hs v1.2.2.1 v1.2.2.2.1 ⟨hC.2.2.2.1, hC.2.2.2.2.1, by rw [e90 90 (by omega) (by omega), e90 91 (by omega) (by omega), e90 92 (by omega) (by omega)]; exact hC.2.2.2.2.2, by omega, by rw [e73 24 (by omega)]; exact v2.2.2.2.1⟩ (by rw [e73 25 (by omega)]; exact v2.2.2.2.2.2.1) (by rw [e73 26 (by omega)]; exact v2.2.2.2.2.2.2.2.1)
          have g25 : M2 73 25 = nI r := by rw [f2.1 73 25 (by omega) (by omega) (by omega), e73 25 (by omega)]; exact v2.2.2.2.2.2.1
          have g26 : M2 73 26 = nI a := by rw [f2.1 73 26 (by omega) (by omega) (by omega), e73 26 (by omega)]; exact v2.2.2.2.2.2.2.2.1
          have gp : 72 * M2 73 25 + M2 73 26 = nI (72 * r + a) := by rw [g25, g26, show (72 : Int32) = nI 72 from rfl, pk_mul, nI_add]
          refine ⟨M2, f1, f2, fun hp => ?_, fun hp => ?_⟩
          · unfold f_X12_least f_X12_least_25 f_X12_least_48 f_X12_least_81 f_X12_least_94
            rw [nm_u, e73 27 (by omega), h2.2, w2, bd1_e, if_neg (by decide), e_bf, bd1_e, if_pos rfl, e_in, bI_t hc, bd1_e, if_neg (by decide), e_bf, bd1_e, if_pos rfl]
            show bd1 (f_X12_strength (px_u M1 73 0 0)) _ = _
            rw [m_strength hA (hF.sm2 ⟨hC6, hC.1.2.2.2.2.1⟩), hv, bd1_e]
            show bd1 (f_X12_findLeast sh (px_u M1 73 0 0) R (nI w) (nI s)) _ = _
            rw [f1, bd1_e, if_pos hp, if_pos hp]
          · unfold f_X12_least f_X12_least_25 f_X12_least_48 f_X12_least_81 f_X12_least_94
            rw [nm_u, e73 27 (by omega), h2.2, w2, bd1_e, if_neg (by decide), e_bf, bd1_e, if_pos rfl, e_in, bI_t hc, bd1_e, if_neg (by decide), e_bf, bd1_e, if_pos rfl]
            show bd1 (f_X12_strength (px_u M1 73 0 0)) _ = _
            rw [m_strength hA (hF.sm2 ⟨hC6, hC.1.2.2.2.2.1⟩), hv, bd1_e]
            show bd1 (f_X12_findLeast sh (px_u M1 73 0 0) R (nI w) (nI s)) _ = _
            rw [f1, bd1_e, if_neg hp, if_neg hp, gp, nm_u]
        have ch1 : ∀ x, f_X11_least_21 sh M L R (nI w) p2 = some x → f_X11_least sh M L R (nI w) p2 = some (.inl x) := by
          intro x hx
          unfold f_X11_least f_X9_hasWorld
          rw [h2.1, w1, bd1_e, ok_t zb1, bd1_e, if_neg (by decide), e_within, bI_t hc, bd1_e, if_neg (by decide), hx, bd1_e]
        have gdd : ∀ e, Gd wr ws an d s e 0 (72 * r + a) ↔ Dd wr ws s e r (hq an ws r a d 0) := fun e => by unfold Gd; rw [a1, a2]
        by_cases hp : p2 = -1
        · obtain ⟨z, M1, L1, c1, c2, c3, c4⟩ := c_days (q := 0) (d := d) (r := r) (a := a) hC hs (by omega) v1.2.1 v1.2.2.1 v1.2.2.2.1 v2.2.2.1 v2.2.2.2.2.1 v2.2.2.2.2.2.2.1
          obtain ⟨M2, f1, f2, f3, -⟩ := ref M1 L1 c4
          obtain rfl : z = M2 73 34 := c2.uniq f2.2.1 (fun e _ => (gdd e).symm)
          refine ⟨M2 73 34, M1, L1, M2, ch1 _ ?_, f3 hp, hI'.fin hV' hw hC c4 c3.cl f2.1⟩
          unfold f_X11_least_21 f_X11_least_56
          rw [c_strength hA, hv, bd1_e, if_neg (by rw [hp]; decide), show f_X9_fewestDays sh M L R (nI w) 0 (nI s) = _ from c1, bd1_e]
        · have h0 : ¬ p2 < 0 := fun q => hp (by
            rw [Int32.lt_iff_toInt_lt] at q
            have := hc.1
            rw [Int32.le_iff_toInt_le] at this
            rw [← Int32.toInt_inj]
            rw [show (0 : Int32).toInt = 0 by decide] at q
            rw [show (-1 : Int32).toInt = -1 by decide] at this ⊢
            omega)
          obtain ⟨j, hj, rfl⟩ := nI_of2 (M := 39) (n := 39) (by decide) h0 hc.2
          obtain ⟨y, z, M1, L1, c1, c2, c3, c4, c5⟩ := c_first (p2 := j) (d := d) (r := r) (a := a) hC hs hj v1.2.1 v1.2.2.1 v1.2.2.2.1 v2.2.2.1 v2.2.2.2.2.1 v2.2.2.2.2.2.2.1
          obtain ⟨M2, f1, f2, -, f3⟩ := ref M1 L1 c5
          obtain rfl : y = M2 73 34 := c2.uniq f2.2.1 (fun e _ => (gdd e).symm)
          refine ⟨z, M1, L1, M2, ch1 _ ?_, ?_, hI'.fin hV' hw hC c5 c4.cl f2.1⟩
          · unfold f_X11_least_21 f_X11_least_56
            rw [c_strength hA, hv, bd1_e, if_pos (nI_pos' (by omega)), c1, bd1_e]
          · rw [f3 hp]
            rcases c3 with ⟨k1, rfl⟩ | ⟨l, l1, l2, l3, k, r', h', k1, k2, rfl⟩
            · rw [if_neg k1]
            · rw [if_pos (by rw [l2]; exact nI_lt l3 (by omega))]
              obtain ⟨k', r2, h2', t1, t2, t3⟩ := m_ways hS hs hC.2.2.2.2.1.2.2 (show 72 * r + a < 18432 by omega) f2 l1 l2 l3
              rw [a1, a2] at t2
              obtain ⟨rfl, rfl⟩ := Pth.uniq _ _ _ _ _ k1 t2
              obtain rfl := k2.uniq t3
              rw [t1, bd1_e]
    · right; right; right
      have e27 : (px_u M 73 0 0) 73 27 = nI nw := h2.2
      unfold f_X11_least f_X9_hasWorld f_X12_least f_X12_least_25 f_X12_least_48 f_X12_least_55
      refine ⟨?_, ?_⟩
      · rw [h2.1, w1, bd1_e, ok_t zb1, bd1_e, if_neg (by decide), e_within, bI_f hc, bd1_e, if_pos rfl]
      · rw [nm_u, e27, w2, bd1_e, if_neg (by decide), e_bf, bd1_e, if_pos rfl, e_in, bI_f hc, bd1_e, if_pos rfl]
        show bd1 (f_X12_bad (px_u M 73 0 0) 1 2) _ = _
        rw [e_bt (by decide), bd1_e, if_neg (show ¬ (1 : Int32) = 0 by decide)]
  · right; right; left
    have e27 : (px_u M 73 0 0) 73 27 = nI nw := h2.2
    unfold f_X11_least f_X9_hasWorld f_X12_least f_X12_least_25 f_X12_least_55
    refine ⟨?_, ?_⟩
    · rw [h2.1, w1, bd1_e, ok_t zb0, bd1_e, if_pos rfl]
    · rw [nm_u, e27, w2, bd1_e, if_pos rfl, e_bt (by decide), bd1_e, if_neg (show ¬ (1 : Int32) = 0 by decide)]
end WINDOW
