/-! least, late and window that make the chart -/
section ASKN
variable {sh : px_Sh} {M : px_M} {L : px_L} {R : px_R} {n nw d r a nd np nf w : Nat} {wa ch ly pa fp : Nat → Nat}
theorem n_best {A : Nat} {sh' : px_Sh} {M0 : px_M} {L0 : px_L} {R0 : px_R} (h : MkN sh M L R n w A r sh' M0 L0 R0) {y : Int32} {f e : Int32 × px_M × px_L} (hf : f_X9_fewestDays sh' M0 L0 R0 (nI w) 0 y = some f) (he : f_X9_bestWaiting sh' M0 L0 R0 (nI w) y = some e) : f_X9_bestWaitingN sh M L R n (nI w) y = some (e.1, sh', e.2.1, e.2.2, R0, n + 2) := by
  unfold f_X9_bestWaiting at he
  obtain ⟨l, l1, hl⟩ := bd1_some he
  unfold f_X9_bestWaitingN
  rw [if_neg (by decide), n_days h hf, bd1_e]
  by_cases q : f.1 = -1
  · have hb : f_X9_bestWaiting_8 sh' M0 L0 R0 (nI w) y (-1) (-1) 0 = some (.inl (-1, -1, 0 + 1, f.2.1, f.2.2)) := by
      unfold f_X9_bestWaiting_8 f_X9_bestWaiting_56
      rw [if_neg (by decide), hf, bd1_e, if_pos q]
    rw [lpf_go (body := fun a : Int32 × Int32 × Int32 × px_M × px_L => f_X9_bestWaiting_8 sh' a.2.2.2.1 a.2.2.2.2 R0 (nI w) y a.1 a.2.1 a.2.2.1) (a := (-1, -1, 0, M0, L0)) hb] at l1
    rw [if_pos (show (f.1, sh', f.2.1, f.2.2, R0, n + 2).1 = -1 from q)]
    show bd1 (lpf (fun a : Int32 × Int32 × Int32 × px_M × px_L => f_X9_bestWaiting_8 sh' a.2.2.2.1 a.2.2.2.2 R0 (nI w) y a.1 a.2.1 a.2.2.1) (-1, -1, 0 + 1, f.2.1, f.2.2)) _ = _
    rw [l1, bd1_e]
    cases hl
    rfl
  · have hb : f_X9_bestWaiting_8 sh' M0 L0 R0 (nI w) y (-1) (-1) 0 = some (.inl (0, 0 + f.1, 0 + 1, f.2.1, f.2.2)) := by
      unfold f_X9_bestWaiting_8 f_X9_bestWaiting_46 f_X9_bestWaiting_56
      rw [if_neg (by decide), hf, bd1_e, if_neg q, if_pos rfl, nm_u]
    rw [lpf_go (body := fun a : Int32 × Int32 × Int32 × px_M × px_L => f_X9_bestWaiting_8 sh' a.2.2.2.1 a.2.2.2.2 R0 (nI w) y a.1 a.2.1 a.2.2.1) (a := (-1, -1, 0, M0, L0)) hb] at l1
    rw [if_neg (show ¬ (f.1, sh', f.2.1, f.2.2, R0, n + 2).1 = -1 from q), if_pos rfl, nm_u]
    show bd1 (lpf (fun a : Int32 × Int32 × Int32 × px_M × px_L => f_X9_bestWaiting_8 sh' a.2.2.2.1 a.2.2.2.2 R0 (nI w) y a.1 a.2.1 a.2.2.1) (0, 0 + f.1, 0 + 1, f.2.1, f.2.2)) _ = _
    rw [l1, bd1_e]
    cases hl
    rfl
theorem GrN.sm {sh' : px_Sh} {M0 : px_M} {L0 : px_L} {R0 : px_R} (g : GrN sh M L R n sh' M0 L0 R0) (hn : 220 ≤ n) (hfree : ∀ c, n ≤ c → sh c = none) {k : Nat} (hk : k ≠ 0) : sm_ sh k M M0 := fun c j hc => by
  by_cases q : c < n
  · exact g.1 c j q
  · rw [md_d (by omega), hfree c (by omega)] at hc
    exact absurd hc.symm hk
/-- the parts of the invariant go over -/
theorem n_go (hI : WI sh M L R nw wa ch ly) (hV : VI M nw d r a nd) (hA : SailI sh M R np nf pa fp) (hS : SR sh R) (hn : 220 ≤ n) (hfree : ∀ c, n ≤ c → sh c = none) (hw : w < nw) (hR : R (wa w) 3 = none) :
    ∃ sh' M0 L0 R0 ch' ly', MkN sh M L R n w (wa w) r sh' M0 L0 R0 ∧ WI sh' M0 L0 R0 nw wa ch' ly' ∧ R0 (wa w) 3 ≠ none ∧ GrN sh M L R n sh' M0 L0 R0 ∧ VI M0 nw d r a nd ∧ SailI sh' M0 R0 np nf pa fp ∧ f_X8_strength sh M R = f_X8_strength sh' M0 R0 := by
  obtain ⟨sh', M0, L0, R0, ch', ly', g1, g2, g3, g4⟩ := c_new hI hw hR hn hfree hS
  obtain ⟨⟨k1, k2, k3⟩, k4, -⟩ := hI.2.2.1 w hw
  have wan : wa w < n := Nat.lt_of_not_le fun z => by rw [hfree _ z] at k2; cases k2
  have h14 : w < 4 := by have := hI.1; omega
  have hs : ∀ c q, sh c = some q → sh' c = some q := fun c q h => by
    have : c < n := Nat.lt_of_not_le fun z => by rw [hfree _ z] at h; cases h
    rw [g4.2.2.2.2.1 c this]; exact h
  have hA' : SailI sh' M0 R0 np nf pa fp := hA.fr (g4.sm hn hfree (by decide)) (fun j => ⟨g4.2.2.2.1 7 j (by omega), g4.2.2.2.1 8 j (by omega)⟩) (fun c h => hs c _ h)
  refine ⟨sh', M0, L0, R0, ch', ly', ⟨g1, fun j => g4.1 14 j (by omega), fun j => g4.1 _ j wan, k1, by rw [g4.2.2.2.1 15 w (by omega)]; exact k1, k2, hs _ _ k2, h14⟩, g2, g3, g4, hV.fr (g4.sm hn hfree (by decide)), hA', ?_⟩
  rw [c_strength hA, c_strength hA', ← m_strength hA (g4.sm hn hfree (by decide)), ← m_strength hA' (sh := sh') (M' := M0) (fun _ _ _ => rfl)]
theorem p_lateN (hI : WI sh M L R nw wa ch ly) (hV : VI M nw d r a nd) (hA : SailI sh M R np nf pa fp) (hS : SR sh R) (hn : 220 ≤ n) (hfree : ∀ c, n ≤ c → sh c = none) (hw : w < nw) (hR : R (wa w) 3 = none) {p2 : Int32} (hc : 0 ≤ p2 ∧ p2 ≤ 20) :
    ∃ q sh' M0 L0 R0 ch' ly' M1 L1 M2, f_X11_lateN sh M L R n (nI w) p2 = some (.inl (q, sh', M1, L1, R0, n + 2)) ∧ f_X12_late sh' M1 R0 (nI w) p2 = some (q, M2) ∧ (GrN sh M L R n sh' M0 L0 R0 ∧ R0 (wa w) 3 ≠ none) ∧ VI M0 nw d r a nd ∧ SailI sh' M0 R0 np nf pa fp ∧ FrV sh' M0 L0 R0 M2 L1 nw wa ch' ly' d r a nd := by
  obtain ⟨sh', M0, L0, R0, ch', ly', g1, g2, g3, g4, g5, g6, g7⟩ := n_go hI hV hA hS hn hfree hw hR
  have hnw := hI.1
  have hw1 : ∀ M' : px_M, M' 14 5 = nI nw → f_X9_hasWorld M' (nI w) = some 1 := fun M' h => by
    unfold f_X9_hasWorld
    rcases rng (nI w) (k := nw) (by omega) with ⟨w', hw', e, w1, w2⟩ | ⟨z, -, -⟩
    · rw [h, w1, bd1_e, ok_t zb1]
    · exact absurd rfl (z w hw)
  have hh : f_X11_late sh' M0 L0 R0 (nI w) p2 = bd1 (f_X11_late_21 sh' M0 L0 R0 (nI w) p2) fun x => some (.inl x) := by
    unfold f_X11_late
    rw [hw1 M0 g2.2.1.1, bd1_e, if_neg (by decide), e_within, bI_t hc, bd1_e, if_neg (by decide)]
  rcases p_late g2 g5 g6 g4.2.2.2.2.2.2 (nI w) p2 with ⟨w', b1, b2, b3, -⟩ | ⟨q, M1, L1, M2, b1, b2, b3⟩ | ⟨b1, -⟩ | ⟨b1, -⟩
  · obtain rfl : w = w' := (nI_eq (by omega) (by omega)).mp b2
    exact absurd b3 g3
  · refine ⟨q, sh', M0, L0, R0, ch', ly', M1, L1, M2, ?_, b2, ⟨g4, g3⟩, g5, g6, b3⟩
    rw [hh] at b1
    obtain ⟨x, x1, x2⟩ := bd1_some b1
    have x2 := Sum.inl.inj (Option.some.inj x2)
    unfold f_X11_late_21 at x1
    obtain ⟨s, s1, x1⟩ := bd1_some x1
    obtain ⟨t, t1, x1⟩ := bd1_some x1
    unfold f_X9_daysInAll f_X9_daysInAll_23 at t1
    obtain ⟨f, f1, t1⟩ := bd1_some t1
    unfold f_X11_lateN f_X11_lateN_21 f_X9_daysInAllN f_X9_daysInAllN_23
    rw [hw1 M hI.2.1.1, bd1_e, if_neg (by decide), e_within, bI_t hc, bd1_e, if_neg (by decide), g7, s1, bd1_e, n_days g1 f1, bd1_e]
    have x1 := Option.some.inj x1
    by_cases e : f.1 = -1
    · rw [if_pos e] at t1
      rw [if_pos (show (f.1, sh', f.2.1, f.2.2, R0, n + 2).1 = -1 from e), bd1_e, bd1_e]
      have t1 := Option.some.inj t1
      subst t1
      rw [x2] at x1
      have y1 := congrArg Prod.fst x1
      have y2 := congrArg (fun z => z.2.1) x1
      have y3 := congrArg (fun z => z.2.2) x1
      dsimp only at y1 y2 y3
      rw [← y1, ← y2, ← y3]
    · rw [if_neg e] at t1
      rw [if_neg (show ¬ (f.1, sh', f.2.1, f.2.2, R0, n + 2).1 = -1 from e), bd1_e, bd1_e]
      have t1 := Option.some.inj t1
      subst t1
      rw [x2] at x1
      have y1 := congrArg Prod.fst x1
      have y2 := congrArg (fun z => z.2.1) x1
      have y3 := congrArg (fun z => z.2.2) x1
      dsimp only at y1 y2 y3
      rw [← y1, ← y2, ← y3]
  · rw [hh] at b1; obtain ⟨x, x1, x2⟩ := bd1_some b1; cases x2
  · rw [hh] at b1; obtain ⟨x, x1, x2⟩ := bd1_some b1; cases x2
theorem p_leastN (hI : WI sh M L R nw wa ch ly) (hV : VI M nw d r a nd) (hA : SailI sh M R np nf pa fp) (hS : SR sh R) (hn : 220 ≤ n) (hfree : ∀ c, n ≤ c → sh c = none) (hw : w < nw) (hR : R (wa w) 3 = none) {p2 : Int32} (hc : -1 ≤ p2 ∧ p2 ≤ 39) :
    ∃ q sh' M0 L0 R0 ch' ly' M1 L1 M2, f_X11_leastN sh M L R n (nI w) p2 = some (.inl (q, sh', M1, L1, R0, n + 2)) ∧ f_X12_least sh' M1 R0 (nI w) p2 = some (q, M2) ∧ (GrN sh M L R n sh' M0 L0 R0 ∧ R0 (wa w) 3 ≠ none) ∧ VI M0 nw d r a nd ∧ SailI sh' M0 R0 np nf pa fp ∧ FrV sh' M0 L0 R0 M2 L1 nw wa ch' ly' d r a nd := by
  obtain ⟨sh', M0, L0, R0, ch', ly', g1, g2, g3, g4, g5, g6, g7⟩ := n_go hI hV hA hS hn hfree hw hR
  have hnw := hI.1
  have hw1 : ∀ M' : px_M, M' 14 5 = nI nw → f_X9_hasWorld M' (nI w) = some 1 := fun M' h => by
    unfold f_X9_hasWorld
    rcases rng (nI w) (k := nw) (by omega) with ⟨w', hw', e, w1, w2⟩ | ⟨z, -, -⟩
    · rw [h, w1, bd1_e, ok_t zb1]
    · exact absurd rfl (z w hw)
  have hh : f_X11_least sh' M0 L0 R0 (nI w) p2 = bd1 (f_X11_least_21 sh' M0 L0 R0 (nI w) p2) fun x => some (.inl x) := by
    unfold f_X11_least
    rw [hw1 M0 g2.2.1.1, bd1_e, if_neg (by decide), e_within, bI_t hc, bd1_e, if_neg (by decide)]
  rcases p_least g2 g5 g6 g4.2.2.2.2.2.2 (nI w) p2 with ⟨w', b1, b2, b3, -⟩ | ⟨q, M1, L1, M2, b1, b2, b3⟩ | ⟨b1, -⟩ | ⟨b1, -⟩
  · obtain rfl : w = w' := (nI_eq (by omega) (by omega)).mp b2
    exact absurd b3 g3
  · refine ⟨q, sh', M0, L0, R0, ch', ly', M1, L1, M2, ?_, b2, ⟨g4, g3⟩, g5, g6, b3⟩
    rw [hh] at b1
    obtain ⟨x, x1, x2⟩ := bd1_some b1
    have x2 := Sum.inl.inj (Option.some.inj x2)
    subst x2
    unfold f_X11_least_21 f_X11_least_56 at x1
    obtain ⟨s, s1, x1⟩ := bd1_some x1
    unfold f_X11_leastN f_X11_leastN_21 f_X11_leastN_56
    rw [hw1 M hI.2.1.1, bd1_e, if_neg (by decide), e_within, bI_t hc, bd1_e, if_neg (by decide), g7, s1, bd1_e]
    by_cases e : 0 ≤ p2
    · rw [if_pos e] at x1 ⊢
      obtain ⟨f, f1, x3⟩ := bd1_some x1
      rw [n_first g1 f1, bd1_e, bd1_e]
      have x3 := Option.some.inj x3
      have y1 := congrArg Prod.fst x3
      have y2 := congrArg (fun z => z.2.1) x3
      have y3 := congrArg (fun z => z.2.2) x3
      dsimp only at y1 y2 y3
      rw [← y1, ← y2, ← y3]
    · rw [if_neg e] at x1 ⊢
      obtain ⟨f, f1, x3⟩ := bd1_some x1
      rw [n_days g1 f1, bd1_e, bd1_e]
      have x3 := Option.some.inj x3
      have y1 := congrArg Prod.fst x3
      have y2 := congrArg (fun z => z.2.1) x3
      have y3 := congrArg (fun z => z.2.2) x3
      dsimp only at y1 y2 y3
      rw [← y1, ← y2, ← y3]
  · rw [hh] at b1; obtain ⟨x, x1, x2⟩ := bd1_some b1; cases x2
  · rw [hh] at b1; obtain ⟨x, x1, x2⟩ := bd1_some b1; cases x2
theorem p_windowN (hI : WI sh M L R nw wa ch ly) (hV : VI M nw d r a nd) (hA : SailI sh M R np nf pa fp) (hS : SR sh R) (hn : 220 ≤ n) (hfree : ∀ c, n ≤ c → sh c = none) (hw : w < nw) (hR : R (wa w) 3 = none) :
    ∃ q sh' M0 L0 R0 ch' ly' M1 L1 M2, f_X11_windowN sh M L R n (nI w) = some (.inl (q, sh', M1, L1, R0, n + 2)) ∧ f_X12_window sh' M1 R0 (nI w) = some (q, M2) ∧ (GrN sh M L R n sh' M0 L0 R0 ∧ R0 (wa w) 3 ≠ none) ∧ VI M0 nw d r a nd ∧ SailI sh' M0 R0 np nf pa fp ∧ FrV sh' M0 L0 R0 M2 L1 nw wa ch' ly' d r a nd := by
  obtain ⟨sh', M0, L0, R0, ch', ly', g1, g2, g3, g4, g5, g6, g7⟩ := n_go hI hV hA hS hn hfree hw hR
  have hnw := hI.1
  have hw1 : ∀ M' : px_M, M' 14 5 = nI nw → f_X9_hasWorld M' (nI w) = some 1 := fun M' h => by
    unfold f_X9_hasWorld
    rcases rng (nI w) (k := nw) (by omega) with ⟨w', hw', e, w1, w2⟩ | ⟨z, -, -⟩
    · rw [h, w1, bd1_e, ok_t zb1]
    · exact absurd rfl (z w hw)
  have hh : f_X11_window sh' M0 L0 R0 (nI w) = bd1 (f_X11_window_11 sh' M0 L0 R0 (nI w)) fun x => some (.inl x) := by
    unfold f_X11_window
    rw [hw1 M0 g2.2.1.1, bd1_e, if_neg (by decide)]
  rcases p_window g2 g5 g6 g4.2.2.2.2.2.2 (nI w) with ⟨w', b1, b2, b3⟩ | ⟨q, M1, L1, M2, b1, b2, b3⟩ | ⟨b1, -⟩
  · obtain rfl : w = w' := (nI_eq (by omega) (by omega)).mp b2
    exact absurd b3 g3
  · refine ⟨q, sh', M0, L0, R0, ch', ly', M1, L1, M2, ?_, b2, ⟨g4, g3⟩, g5, g6, b3⟩
    rw [hh] at b1
    obtain ⟨x, x1, x2⟩ := bd1_some b1
    have x2 := Sum.inl.inj (Option.some.inj x2)
    subst x2
    unfold f_X11_window_11 at x1
    obtain ⟨s, s1, x1⟩ := bd1_some x1
    obtain ⟨f, f1, x3⟩ := bd1_some x1
    obtain ⟨wr, an, ws, hC⟩ := g2.wc hw g3
    obtain ⟨k, hk, hv⟩ := cl20_r (sY M0 pa np 3 / 100)
    have hs : s = nI k := by
      rw [c_strength g6] at s1
      rw [← Option.some.inj s1]; exact hv
    obtain ⟨v1, v2, -, -, -⟩ := g5
    obtain ⟨z, Ma, La, c1, -, -, -⟩ := c_days (q := 0) (d := d) (r := r) (a := a) hC hk (by omega) v1.2.1 v1.2.2.1 v1.2.2.2.1 v2.2.2.1 v2.2.2.2.2.1 v2.2.2.2.2.2.2.1
    rw [← hs] at c1
    unfold f_X11_windowN f_X11_windowN_11
    rw [hw1 M hI.2.1.1, bd1_e, if_neg (by decide), g7, s1, bd1_e, n_best g1 (show f_X9_fewestDays sh' M0 L0 R0 (nI w) 0 s = _ from c1) f1, bd1_e, bd1_e]
    have x3 := Option.some.inj x3
    have y1 := congrArg Prod.fst x3
    have y2 := congrArg (fun z => z.2.1) x3
    have y3 := congrArg (fun z => z.2.2) x3
    dsimp only at y1 y2 y3
    rw [← y1, ← y2, ← y3]
  · rw [hh] at b1; obtain ⟨x, x1, x2⟩ := bd1_some b1; cases x2
end ASKN
