/-! least, late and window, the chart being there -/
def FrV (sh : px_Sh) (M : px_M) (L : px_L) (R : px_R) (M2 : px_M) (L2 : px_L) (nw : Nat) (wa ch ly : Nat → Nat) (d r a nd : Nat) : Prop :=
  M2 73 0 = 0 ∧ kp sh [3] M M2 ∧ kp sh [3] L L2 ∧ WI sh M2 L2 R nw wa ch ly ∧ VI M2 nw d r a nd ∧ ∀ c j, c < 73 → M2 c j = M c j
theorem mdc_row : ∀ c, c < 177 → 94 ≤ c → mdc c = 0 := by decide +kernel
section LEAST
variable {sh : px_Sh} {M : px_M} {L : px_L} {R : px_R} {nw d r a nd np nf : Nat} {wa ch ly pa fp : Nat → Nat}
theorem WI.wc (hI : WI sh M L R nw wa ch ly) {w : Nat} (hw : w < nw) (hR : R (wa w) 3 ≠ none) : ∃ wr an ws, WC sh M L R w (wa w) (ch w) (ly w) wr an ws := by
  obtain ⟨⟨k1, k2, k3⟩, k4, wr, an, ws, k5, k6, k7⟩ := hI.2.2.1 w hw
  rcases k7 with k7 | ⟨⟨c1, c2, c3⟩, ⟨l1, l2, l3⟩, c4, c5⟩
  · exact absurd k7 hR
  · exact ⟨wr, an, ws, ⟨k1, k2, k3, c1, c2, c3, l1, l2, l3⟩, ⟨k4.1.trans k6.1, k4.2.1.trans k6.2.1, k4.2.2.trans k6.2.2⟩, ⟨c4, c5⟩, by have := hI.1; omega, k5, k6⟩
theorem WI.fin (hI : WI sh M L R nw wa ch ly) (hV : VI M nw d r a nd) {w wr an ws : Nat} (hw : w < nw) (hC : WC sh M L R w (wa w) (ch w) (ly w) wr an ws) {M1 M2 : px_M} {L1 : px_L} (hF : CF M L M1 L1 (ch w) (ly w)) (hL : CL wr ws (M1 (ch w) 1) (M1 (ch w) 2) (L1 (ly w))) (hE : eqF (px_u M1 73 0 0) M2) : FrV sh M L R M2 L1 nw wa ch ly d r a nd := by
  have hC' := hC
  obtain ⟨⟨q1, q2, q3, q4, q5, q6, q7, q8, q9⟩, -, -⟩ := hC
  have fr : ∀ c j, ¬ (c = ch w ∧ (j = 1 ∨ j = 2)) → ¬ (94 ≤ c ∧ c ≤ 134) → ¬ (136 ≤ c ∧ c ≤ 176) → ¬ (c = 73 ∧ (j = 34 ∨ j = 0)) → M2 c j = M c j := fun c j d1 d2 d3 d4 => by
    rw [hE c j d2 d3 (by omega), pu_n (by omega), hF.1 c j d1]
  have h0 : M2 73 0 = 0 := by rw [hE 73 0 (by omega) (by omega) (by omega)]; exact px_u_in _ _ _ _
  have lo : ∀ c j, c < 73 → M2 c j = M c j := fun c j hc => fr c j (by omega) (by omega) (by omega) (by omega)
  refine ⟨h0, fun c j hm => ?_, fun c j hm => ?_, ?_, ?_, lo⟩
  · apply fr
    · rintro ⟨rfl, _⟩; exact hm (by rw [md_1 q6 q5]; decide)
    · intro hc
      apply hm
      unfold md
      rw [if_pos (by omega), if_neg (by omega)]
      rw [mdc_row c (by omega) (by omega)]; decide
    · intro hc
      apply hm
      unfold md
      rw [if_pos (by omega), if_neg (by omega)]
      rw [mdc_row c (by omega) (by omega)]; decide
    · rintro ⟨rfl, rfl | rfl⟩
      · exact hm (by rw [show md sh 73 34 = 0 from rfl]; decide)
      · exact hm (by rw [show md sh 73 0 = 0 from rfl]; decide)
  · by_cases e : c = ly w
    · subst e; exact absurd (by rw [md_14 q9 q8]; decide) hm
    · rw [hF.2 c e]
  · obtain ⟨h1, h2, h3, h4, h5⟩ := hI
    refine ⟨h1, ?_, fun v hv => ?_, h4, h5⟩
    · rw [lo 14 5 (by omega), fr 73 27 (by omega) (by omega) (by omega) (by omega)]; exact h2
    · obtain ⟨⟨k1, k2, k3⟩, k4, wr', an', ws', k5, k6, k7⟩ := h3 v hv
      have hne : wa v ≠ ch w := fun e => by
        rw [e, q5] at k2; simp at k2
      have f90 : ∀ c, 90 ≤ c → c ≤ 92 → M2 c v = M c v := fun c c1 c2 => fr c v (by omega) (by omega) (by omega) (by omega)
      have fw : ∀ j, M2 (wa v) j = M (wa v) j := fun j => fr _ _ (by omega) (by omega) (by omega) (by omega)
      unfold WorI
      rw [fw 0, fw 1, fw 2, f90 90 (by omega) (by omega), f90 91 (by omega) (by omega), f90 92 (by omega) (by omega)]
      refine ⟨⟨k1, k2, k3⟩, k4, wr', an', ws', k5, k6, ?_⟩
      rcases k7 with k7 | ⟨⟨c1, c2, c3⟩, ⟨l1, l2, l3⟩, c4, c5⟩
      · exact Or.inl k7
      · right
        refine ⟨⟨c1, c2, c3⟩, ⟨l1, l2, l3⟩, ?_, ?_⟩
        · rw [fr _ 0 (by omega) (by omega) (by omega) (by omega)]; exact c4
        · by_cases e : v = w
          · subst e
            have e1 : wr' = wr ∧ ws' = ws := by
              have a1 := hC'.2.2.2.2.2
              exact ⟨(nI_eq (by omega) (by have := hC'.2.2.2.2.1; omega)).mp (k6.1.symm.trans a1.1), (nI_eq (by omega) (by have := hC'.2.2.2.2.1; omega)).mp (k6.2.2.symm.trans a1.2.2)⟩
            have g : ∀ j, M2 (ch v) j = M1 (ch v) j := fun j => by rw [hE _ j (by omega) (by omega) (by omega), pu_n (by omega)]
            rw [e1.1, e1.2, g 1, g 2]; exact hL
          · obtain ⟨n1, n2⟩ := h5 v w hv hw e (by rw [c1]; simp) (by rw [q4]; simp)
            rw [fr _ 1 (by omega) (by omega) (by omega) (by omega), fr _ 2 (by omega) (by omega) (by omega) (by omega), hF.2 _ n2]; exact c5
  · obtain ⟨h1, h2, h3, h4, h5⟩ := hV
    have f73 : ∀ j, 1 ≤ j → j ≠ 34 → M2 73 j = M 73 j := fun j j1 j2 => fr 73 j (by omega) (by omega) (by omega) (by omega)
    have hi : ∀ c j, 177 ≤ c → c < 220 → M2 c j = M c j := fun c j c1 c2 => fr c j (by omega) (by omega) (by omega) (by omega)
    refine ⟨h1, ?_, ?_, fun k hk => ?_, fun e b1 b2 => ?_⟩
    · rw [lo 14 5 (by omega), f73 27 (by omega) (by omega), lo 14 0 (by omega), f73 24 (by omega) (by omega), lo 14 1 (by omega), f73 25 (by omega) (by omega), lo 14 2 (by omega), f73 26 (by omega) (by omega), lo 14 8 (by omega), f73 41 (by omega) (by omega)]; exact h2
    · rw [lo 14 3 (by omega), f73 28 (by omega) (by omega)]; exact h3
    · rw [lo 16 k (by omega), lo 17 k (by omega), hi 179 k (by omega) (by omega), hi 180 k (by omega) (by omega)]; exact h4 k hk
    · rw [lo 18 _ (by omega), lo 18 _ (by omega), lo 18 _ (by omega), lo 18 _ (by omega), hi 181 _ (by omega) (by omega), hi 182 _ (by omega) (by omega), hi 183 _ (by omega) (by omega), hi 184 _ (by omega) (by omega)]; exact h5 e b1 b2
theorem CF.sm2 {M1 : px_M} {L1 : px_L} {C Y : Nat} (hF : CF M L M1 L1 C Y) (hC : 220 ≤ C ∧ sh C = some (1, 0)) : sm_ sh 2 M (px_u M1 73 0 0) := fun c j hc => by
  rw [pu_n (fun z => by rw [z.1, z.2] at hc; cases hc), hF.1 c j (fun z => by rw [z.1, md_1 hC.1 hC.2] at hc; cases hc)]
theorem p_late (hI : WI sh M L R nw wa ch ly) (hV : VI M nw d r a nd) (hA : SailI sh M R np nf pa fp) (hS : SR sh R) (p1 p2 : Int32) :
    (∃ w, w < nw ∧ p1 = nI w ∧ R (wa w) 3 = none ∧ 0 ≤ p2 ∧ p2 ≤ 20) ∨
    (∃ q M1 L1 M2, f_X11_late sh M L R p1 p2 = some (.inl (q, M1, L1)) ∧ f_X12_late sh M1 R p1 p2 = some (q, M2) ∧ FrV sh M L R M2 L1 nw wa ch ly d r a nd) ∨ (f_X11_late sh M L R p1 p2 = some (.inr 2) ∧ f_X12_late sh M R p1 p2 = some (0, px_t M 1)) ∨ (f_X11_late sh M L R p1 p2 = some (.inr 0) ∧ f_X12_late sh M R p1 p2 = some (0, px_t M 2)) := by
  have hI' := hI
  have hV' := hV
  obtain ⟨h1, h2, h3, h4, h5⟩ := hI
  obtain ⟨v1, v2, -, -, -⟩ := hV
  rcases rng p1 (k := nw) (by omega) with ⟨w, hw, rfl, w1, w2⟩ | ⟨-, w1, w2⟩
  · by_cases hc : 0 ≤ p2 ∧ p2 ≤ 20
    · by_cases hR : R (wa w) 3 = none
      · exact Or.inl ⟨w, hw, rfl, hR, hc⟩
      · right; left
        obtain ⟨q, hq20, rfl⟩ := nI_of2 (M := 20) (n := 20) (by decide) (Int32.not_lt.mpr hc.1) hc.2
        obtain ⟨wr, an, ws, hC⟩ := hI'.wc hw hR
        obtain ⟨s, hs, hv⟩ := cl20_r (sY M pa np 3 / 100)
        have hv : vStr M pa np = nI s := hv
        obtain ⟨z, M1, L1, c1, c2, c3, c4⟩ := c_days (q := q) (d := d) (r := r) (a := a) hC hs hq20 v1.2.1 v1.2.2.1 v1.2.2.2.1 v2.2.2.1 v2.2.2.2.2.1 v2.2.2.2.2.2.2.1
        have hC6 := hC.1.2.2.2.2.2.1
        have e73 : ∀ j, 1 ≤ j → (px_u M1 73 0 0) 73 j = M 73 j := fun j hj => by rw [pu_n (by omega), c4.1 73 j (by omega)]
        have e90 : ∀ c, 90 ≤ c → c ≤ 92 → (px_u M1 73 0 0) c w = M c w := fun c k1 k2 => by rw [pu_n (by omega), c4.1 c w (by omega)]
        obtain ⟨z2, M2, g1, g2, g3⟩ := m_late (M := px_u M1 73 0 0) (w := w) (wr := wr) (an := an) (ws := ws) (d := d) (r := r) (a := a) (q := q) hS hA (c4.sm2 ⟨hC6, hC.1.2.2.2.2.1⟩) hs hv hC.2.2.2.1 hC.2.2.2.2.1 (by rw [e90 90 (by omega) (by omega), e90 91 (by omega) (by omega), e90 92 (by omega) (by omega)]; exact hC.2.2.2.2.2) v1.2.1 v1.2.2.1 v1.2.2.2.1 (by rw [e73 24 (by omega)]; exact v2.2.2.2.1) (by rw [e73 25 (by omega)]; exact v2.2.2.2.2.2.1) (by rw [e73 26 (by omega)]; exact v2.2.2.2.2.2.2.2.1) hq20
        obtain rfl : z = z2 := c2.uniq g2 (fun _ _ => Iff.rfl)
        refine ⟨if z = -1 then -1 else nI q + z, M1, L1, M2, ?_, ?_, hI'.fin hV' hw hC c4 c3.cl g3⟩
        · unfold f_X11_late f_X9_hasWorld f_X11_late_21 f_X9_daysInAll f_X9_daysInAll_23
          rw [h2.1, w1, bd1_e, ok_t zb1, bd1_e, if_neg (by decide), e_within, bI_t hc, bd1_e, if_neg (by decide), c_strength hA, hv, bd1_e, c1, bd1_e]
          by_cases e : z = -1
          · rw [if_pos (show (z, M1, L1).1 = -1 from e), if_pos e, bd1_e, bd1_e]
          · rw [if_neg (show ¬ (z, M1, L1).1 = -1 from e), if_neg e, bd1_e, bd1_e]
        · unfold f_X12_late f_X12_late_25 f_X12_late_48
          rw [nm_u, e73 27 (by omega), h2.2, w2, bd1_e, if_neg (by decide), e_bf, bd1_e, if_pos rfl, e_in, bI_t hc, bd1_e, if_neg (by decide), e_bf, bd1_e, if_pos rfl]
          show bd1 (f_X12_lateBy sh (px_u M1 73 0 0) R (nI w) (nI q)) _ = _
          rw [g1, bd1_e]
    · right; right; right
      have e27 : (px_u M 73 0 0) 73 27 = nI nw := h2.2
      unfold f_X11_late f_X9_hasWorld f_X12_late f_X12_late_25 f_X12_late_48 f_X12_late_55
      refine ⟨?_, ?_⟩
      · rw [h2.1, w1, bd1_e, ok_t zb1, bd1_e, if_neg (by decide), e_within, bI_f hc, bd1_e, if_pos rfl]
      · rw [nm_u, e27, w2, bd1_e, if_neg (by decide), e_bf, bd1_e, if_pos rfl, e_in, bI_f hc, bd1_e, if_pos rfl]
        show bd1 (f_X12_bad (px_u M 73 0 0) 1 2) _ = _
        rw [e_bt (by decide), bd1_e, if_neg (show ¬ (1 : Int32) = 0 by decide)]
  · right; right; left
    have e27 : (px_u M 73 0 0) 73 27 = nI nw := h2.2
    unfold f_X11_late f_X9_hasWorld f_X12_late f_X12_late_25 f_X12_late_55
    refine ⟨?_, ?_⟩
    · rw [h2.1, w1, bd1_e, ok_t zb0, bd1_e, if_pos rfl]
    · rw [nm_u, e27, w2, bd1_e, if_pos rfl, e_bt (by decide), bd1_e, if_neg (show ¬ (1 : Int32) = 0 by decide)]
end LEAST
