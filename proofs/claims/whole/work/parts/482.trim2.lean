/-! trim: the best row -/
def rowV (M : px_M) (nf : Nat) (d : Nat → Nat) : Nat → Int32 := fun f => if f < nf then fiF M f + nI (d f) else 0
def amtT (M : px_M) (p : Int32) (fp : Nat → Nat) (nf np : Nat) (bb : Nat → Int32) : Int32 := am (Sg (fun i => hB M p 0 i (bqF fp bb nf i)) np) + am (Sg (fun i => hB M p 1 i (bqF fp bb nf i)) np)
def stpT (M : px_M) (p : Int32) (fp : Nat → Nat) (nf np : Nat) (d : Nat → Nat) (s : Int32 × (Nat → Int32)) : Int32 × (Nat → Int32) := if s.1 = -1 ∨ amtT M p fp nf np (rowV M nf d) < s.1 then (amtT M p fp nf np (rowV M nf d), rowV M nf d) else s
section TRIM2
variable {sh : px_Sh} {M M' : px_M} {L : px_L} {R : px_R} {np nf : Nat} {pa fp : Nat → Nat}
theorem bend_r {x : Int32} (h : -2 ≤ x ∧ x ≤ 2) : ∃ e, e < 5 ∧ x = nI e - 2 := by
  have a1 := Int32.le_iff_toInt_le.mp h.1
  have a2 := Int32.le_iff_toInt_le.mp h.2
  have b1 : (-2 : Int32).toInt = -2 := by decide
  have b2 : (2 : Int32).toInt = 2 := by decide
  refine ⟨(x.toInt + 2).toNat, by omega, ?_⟩
  apply Int32.toInt_inj.mp
  rw [show (2 : Int32) = nI 2 from rfl, pk_sub_toInt (by omega) (by decide)]
  omega
theorem row_e (h : SailI sh M R np nf pa fp) {f : Nat} (hf : f < nf) {d : Nat} (hd : d < szF M f) : ∃ e, e < 5 ∧ fiF M f + nI d = nI e - 2 := by
  have hfl := h.2.2.2.2.1 f hf
  unfold szF at hd
  unfold fiF
  by_cases q : M 89 f = 0
  · rw [if_pos q] at hd ⊢
    exact ⟨d, hd, by grind⟩
  · rw [if_neg q] at hd ⊢
    obtain ⟨e, e1, e2⟩ := bend_r hfl.2.2.2
    obtain rfl : d = 0 := by omega
    exact ⟨e, e1, by rw [show nI 0 = 0 from rfl, Int32.add_zero]; exact e2⟩
theorem szF_b (M : px_M) (f : Nat) : 1 ≤ szF M f ∧ szF M f ≤ 5 := by unfold szF; split <;> omega
theorem fiF_b (h : SailI sh M R np nf pa fp) {f : Nat} (hf : f < nf) : -100 ≤ (fiF M f).toInt ∧ (fiF M f).toInt ≤ 100 := by
  obtain ⟨e, e1, e2⟩ := row_e h hf (d := 0) (by have := szF_b M f; omega)
  rw [show nI 0 = 0 from rfl, Int32.add_zero] at e2
  rw [e2, show (2 : Int32) = nI 2 from rfl, pk_sub_toInt (by omega) (by decide)]
  omega
/-- the class's memory while it goes through the rows -/
def TrI (M M' : px_M) (p : Int32) (fp : Nat → Nat) (np nf : Nat) : Prop := scrS M M' ∧ (M' 6 11 = Sg (fun i => if isF fp nf i = true then 0 else hB M p 0 i 0) np ∧ M' 6 12 = Sg (fun i => if isF fp nf i = true then 0 else hB M p 1 i 0) np) ∧ ∀ f, f < nf → M' 11 f = fiF M f ∧ M' 12 f = fiF M f + nI (szF M f - 1) ∧ ∀ e, e < 5 → M' 13 (5 * f + e) = (if M 86 (fp f) = 0 then vpr (M 81 (fp f)) (cl8 (p + M 84 (fp f) + (nI e - 2))) (M 82 (fp f)) (M 83 (fp f)) else 0)
theorem c_twf (h : SailI sh M R np nf pa fp) {p : Int32} (hT : TrI M M' p fp np nf) {d : Nat → Nat} (hd : ∀ f, f < nf → d f < szF M f) (h10 : ∀ f, f < nf → M' 10 f = fiF M f + nI (d f)) {ax rest : Int32} (hr : rest = Sg (fun i => if isF fp nf i = true then 0 else hB M p ax i 0) np) : f_X8_turnWithFlaps sh M' R rest ax = some (Sg (fun i => hB M p ax i (bqF fp (rowV M nf d) nf i)) np) := by
  obtain ⟨hs, -, ht⟩ := hT
  have h' := hs.sail h
  have h4 := h.1.2
  have K := lpf_for (body := fun a : Int32 × Int32 => f_X8_turnWithFlaps_5 sh M' R ax a.1 a.2) (fun i (s : Int32) => (s, nI i)) (fun f s => s + hB M p ax (fp f) (rowV M nf d f)) (fun _ _ => True) (fun s => s) nf
    (fun f s hf _ => by
      refine ⟨?_, trivial⟩
      have hfl := h'.2.2.2.2.1 f hf
      have hfp := hfl.1.1
      obtain ⟨e, e1, e2⟩ := row_e h hf (hd f hf)
      show f_X8_turnWithFlaps_5 sh M' R ax s (nI f) = _
      have t2 : nI f * 5 + (nI e - 2) + 2 = nI (5 * f + e) := by
        rw [show (5 : Int32) = nI 5 from rfl, pk_mul, ← nI_add (5 * f) e, Nat.mul_comm 5 f]
        grind
      have hv : ∀ c j, c ≠ 9 → c ≠ 10 → c ≠ 11 → c ≠ 12 → c ≠ 13 → c ≠ 6 → M' c j = M c j := fun c j c1 c2 c3 c4 c5 c6 => hs c j c1 c2 c3 c4 c5 (by omega)
      unfold f_X8_turnWithFlaps_5
      rw [h'.2.1.2.2.1, if_neg (nI_ge hf (by omega)), ok_t (ix_k (show f < 4 by omega) (by decide)), nI_clamp (by omega), h10 f hf, e2, nm_u, t2, ok_t (ix_k (show 5 * f + e < 20 by omega) (by decide)), ok_t (ix_k (show f < 4 by omega) (by decide)), hfl.1.2.1, bd1_e, cl_arm h' hfp, bd1_e, nm_u, nI_clamp (by omega), (ht f hf).2.2 e e1, nI_1, hv 79 _ (by decide) (by decide) (by decide) (by decide) (by decide) (by decide), hv 80 _ (by decide) (by decide) (by decide) (by decide) (by decide) (by decide), hv 73 11 (by decide) (by decide) (by decide) (by decide) (by decide) (by decide), hv 73 12 (by decide) (by decide) (by decide) (by decide) (by decide) (by decide)]
      unfold hB rowV
      rw [if_pos hf, e2])
    (fun s _ => by
      show f_X8_turnWithFlaps_5 sh M' R ax s (nI nf) = _
      unfold f_X8_turnWithFlaps_5
      rw [h'.2.1.2.2.1, if_pos (Int32.le_refl _)]) nf 0 rest (by omega) trivial
  unfold f_X8_turnWithFlaps
  rw [show lpf (fun a : Int32 × Int32 => f_X8_turnWithFlaps_5 sh M' R ax a.1 a.2) (rest, 0) = _ from K.1, bd1_e, Sg_from, hr, sg_split (hB M p ax) (rowV M nf d) nf (fun f hf => (h.2.2.2.2.1 f hf).1.1) h.2.2.2.2.2.1]
theorem c_findTrim (h : SailI sh M R np nf pa fp) (hS : SR sh R) (p : Int32) : ∃ M2, f_X8_findTrim sh M R p = some ((fld (fun t => stpT M p fp nf np (dgt (szF M) nf t)) 0 (Tn (szF M) nf) (-1, fun _ => 0)).1, M2) ∧ scrS M M2 ∧ ∀ f, f < nf → M2 9 f = (fld (fun t => stpT M p fp nf np (dgt (szF M) nf t)) 0 (Tn (szF M) nf) (-1, fun _ => 0)).2 f := by
  have h4 := h.1.2
  obtain ⟨Ma, a1, a2, a3, a4⟩ := c_sumUpRest h p
  obtain ⟨Mb, y1, y2, y3, y4, y5⟩ := c_tableFlaps h p a2
  have hTpos := Tn_pos (sz := szF M) (fun f => by have := szF_b M f; omega) nf
  have hTle : Tn (szF M) nf ≤ 625 := by
    refine Nat.le_trans (Tn_le (b := 5) (fun f => (szF_b M f).2) nf) ?_
    exact Nat.le_trans (Nat.pow_le_pow_right (by decide) h4) (by decide)
  obtain ⟨fi, hfi⟩ : ∃ fi : Nat → Int32, fi = fun f => if f < nf then fiF M f else 0 := ⟨_, rfl⟩
  have hfib : ∀ f, -100 ≤ (fi f).toInt ∧ (fi f).toInt ≤ 100 := by
    intro f
    rw [hfi]
    dsimp only
    by_cases q : f < nf
    · rw [if_pos q]; exact fiF_b h q
    · rw [if_neg q]; decide
  have hfie : ∀ f, f < nf → fi f = fiF M f := fun f hf => by rw [hfi]; exact if_pos hf
  have hd : ∀ t f, f < nf → dgt (szF M) nf t f < szF M f := fun t f hf => dgt_lt (fun f => by have := szF_b M f; omega) nf t f hf
  have hbody : ∀ t M1 s, t < Tn (szF M) nf → TrI M M1 p fp np nf → (∀ f, f < nf → M1 10 f = fiF M f + nI (dgt (szF M) nf t f)) → (0 < t → ∀ f, f < nf → M1 9 f = s.2 f) → (t = 0 → s.1 = -1) →
      ∃ M2, f_X8_findTrim_17 sh M1 R s.1 1 (nI t) = some (.inl ((stpT M p fp nf np (dgt (szF M) nf t) s).1, b2 (decide (t + 1 < Tn (szF M) nf)), nI (t + 1), M2)) ∧ TrI M M2 p fp np nf ∧ (∀ f, f < nf → M2 10 f = fiF M f + nI (dgt (szF M) nf (t + 1) f)) ∧ ∀ f, f < nf → M2 9 f = (stpT M p fp nf np (dgt (szF M) nf t) s).2 f := by
    intro t M1 s ht hT h10 h9 h0
    have hamt : ∀ Mx, TrI M Mx p fp np nf → (∀ f, f < nf → Mx 10 f = fiF M f + nI (dgt (szF M) nf t f)) → ∃ M3, f_X11_nextRow sh Mx 10 11 12 (Mx 6 3) = some (b2 (decide (t + 1 < Tn (szF M) nf)), M3) ∧ (∀ f, f < nf → M3 10 f = fiF M f + nI (dgt (szF M) nf (t + 1) f)) ∧ ∀ a i, ¬ (a = 10 ∧ i < nf) → M3 a i = Mx a i := by
      intro Mx hTx h10x
      rw [(hTx.1.sail h).2.1.2.2.1]
      obtain ⟨M3, r1, r2, r3⟩ := c_nextRow (sz := szF M) (fi := fi) (sc_10 hS) (sc_11 hS) (sc_12 hS) (by decide) (by decide) (szF_b M) hfib (j := nf) (t := t) (M := Mx) h4 (fun f hf => by rw [hfie f hf]; exact ⟨(hTx.2.2 f hf).1, (hTx.2.2 f hf).2.1⟩) (fun f hf => by rw [hfie f hf]; exact h10x f hf) ht
      exact ⟨M3, r1, fun f hf => by rw [r2 f hf, hfie f hf], r3⟩
    have hkeep : ∀ Mx M3 : px_M, TrI M Mx p fp np nf → (∀ a i, ¬ (a = 10 ∧ i < nf) → M3 a i = Mx a i) → TrI M M3 p fp np nf := by
      intro Mx M3 hTx hx
      refine ⟨fun c j c1 c2 c3 c4 c5 c6 => by rw [hx c j (by omega)]; exact hTx.1 c j c1 c2 c3 c4 c5 c6, ⟨by rw [hx 6 11 (by omega)]; exact hTx.2.1.1, by rw [hx 6 12 (by omega)]; exact hTx.2.1.2⟩, fun f hf => ?_⟩
      obtain ⟨t1, t2, t3⟩ := hTx.2.2 f hf
      exact ⟨by rw [hx 11 f (by omega)]; exact t1, by rw [hx 12 f (by omega)]; exact t2, fun e he => by rw [hx 13 _ (by omega)]; exact t3 e he⟩
    have hstart : f_X8_findTrim_17 sh M1 R s.1 1 (nI t) = if s.1 = -1 then f_X8_findTrim_67 sh M1 R (nI t) (amtT M p fp nf np (rowV M nf (dgt (szF M) nf t))) else if s.1 ≤ amtT M p fp nf np (rowV M nf (dgt (szF M) nf t)) then f_X8_findTrim_84 sh M1 R s.1 (nI t) else f_X8_findTrim_67 sh M1 R (nI t) (amtT M p fp nf np (rowV M nf (dgt (szF M) nf t))) := by
      unfold f_X8_findTrim_17
      rw [if_neg (show ¬ 625 ≤ nI t from nI_ge (b := 625) (by omega) (by decide)), if_neg (by decide), c_twf h hT (hd t) h10 hT.2.1.1, bd1_e, e_abs, bd1_e, c_twf h hT (hd t) h10 hT.2.1.2, bd1_e, e_abs, bd1_e, nm_u]
      rfl
    have htake : ∃ M2, f_X8_findTrim_67 sh M1 R (nI t) (amtT M p fp nf np (rowV M nf (dgt (szF M) nf t))) = some (.inl (amtT M p fp nf np (rowV M nf (dgt (szF M) nf t)), b2 (decide (t + 1 < Tn (szF M) nf)), nI (t + 1), M2)) ∧ TrI M M2 p fp np nf ∧ (∀ f, f < nf → M2 10 f = fiF M f + nI (dgt (szF M) nf (t + 1) f)) ∧ ∀ f, f < nf → M2 9 f = rowV M nf (dgt (szF M) nf t) f := by
      obtain ⟨Mc, hMc⟩ : ∃ Mc, Mc = px_c M1 9 (va_cpy (M1 10) (M1 9) 0 0 4) := ⟨_, rfl⟩
      have hc9 : ∀ c j, c ≠ 9 → Mc c j = M1 c j := fun c j hc => by rw [hMc, px_c_ne _ _ hc]
      have hTc : TrI M Mc p fp np nf := by
        refine ⟨fun c j c1 c2 c3 c4 c5 c6 => by rw [hc9 c j c1]; exact hT.1 c j c1 c2 c3 c4 c5 c6, ⟨by rw [hc9 6 11 (by decide)]; exact hT.2.1.1, by rw [hc9 6 12 (by decide)]; exact hT.2.1.2⟩, fun f hf => ?_⟩
        obtain ⟨t1, t2, t3⟩ := hT.2.2 f hf
        exact ⟨by rw [hc9 11 f (by decide)]; exact t1, by rw [hc9 12 f (by decide)]; exact t2, fun e he => by rw [hc9 13 _ (by decide)]; exact t3 e he⟩
      obtain ⟨M3, r1, r2, r3⟩ := hamt Mc hTc (fun f hf => by rw [hc9 10 f (by decide)]; exact h10 f hf)
      refine ⟨M3, ?_, hkeep Mc M3 hTc r3, r2, fun f hf => ?_⟩
      · unfold f_X8_findTrim_67 f_X8_findTrim_84
        rw [nm_u, ← hMc, r1, bd1_e, nI_1]
      · rw [r3 9 f (by omega), hMc, px_c_in, pk_cpy_in (by omega) (by omega)]
        unfold rowV
        rw [if_pos hf, ← h10 f hf]
        congr 1
        omega
    have hskip : 0 < t → ∃ M2, f_X8_findTrim_84 sh M1 R s.1 (nI t) = some (.inl (s.1, b2 (decide (t + 1 < Tn (szF M) nf)), nI (t + 1), M2)) ∧ TrI M M2 p fp np nf ∧ (∀ f, f < nf → M2 10 f = fiF M f + nI (dgt (szF M) nf (t + 1) f)) ∧ ∀ f, f < nf → M2 9 f = s.2 f := by
      intro ht0
      obtain ⟨M3, r1, r2, r3⟩ := hamt M1 hT h10
      refine ⟨M3, ?_, hkeep M1 M3 hT r3, r2, fun f hf => by rw [r3 9 f (by omega)]; exact h9 ht0 f hf⟩
      unfold f_X8_findTrim_84
      rw [r1, bd1_e, nI_1]
    rw [hstart]
    unfold stpT
    by_cases q1 : s.1 = -1
    · rw [if_pos q1, if_pos (Or.inl q1)]
      exact htake
    · rw [if_neg q1]
      by_cases q2 : s.1 ≤ amtT M p fp nf np (rowV M nf (dgt (szF M) nf t))
      · rw [if_pos q2, if_neg (fun x => by
          rcases x with x | x
          · exact q1 x
          · exact Int32.not_lt.mpr q2 x)]
        exact hskip (Nat.pos_of_ne_zero fun e => q1 (h0 e))
      · rw [if_neg q2, if_pos (Or.inr (Int32.not_le.mp q2))]
        exact htake
  have hloop : ∀ (m t : Nat) (M1 : px_M) (s : Int32 × (Nat → Int32)), t + m = Tn (szF M) nf → TrI M M1 p fp np nf → (∀ f, f < nf → M1 10 f = fiF M f + nI (dgt (szF M) nf t f)) → (0 < t → ∀ f, f < nf → M1 9 f = s.2 f) → (t = 0 → s.1 = -1) →
      ∃ M2, lpf (fun a : Int32 × Int32 × Int32 × px_M => f_X8_findTrim_17 sh a.2.2.2 R a.1 a.2.1 a.2.2.1) (s.1, b2 (decide (t < Tn (szF M) nf)), nI t, M1) = some ((fld (fun t => stpT M p fp nf np (dgt (szF M) nf t)) t m s).1, M2) ∧ scrS M M2 ∧ (∀ f, f < nf → M2 9 f = (fld (fun t => stpT M p fp nf np (dgt (szF M) nf t)) t m s).2 f) := by
    intro m
    induction m with
    | zero =>
      intro t M1 s hm hT h10 h9 h0
      obtain rfl : t = Tn (szF M) nf := by omega
      refine ⟨M1, ?_, hT.1, h9 hTpos⟩
      apply lpf_end
      show f_X8_findTrim_17 sh M1 R s.1 (b2 (decide (Tn (szF M) nf < Tn (szF M) nf))) (nI (Tn (szF M) nf)) = _
      unfold f_X8_findTrim_17
      rw [decide_eq_false (Nat.lt_irrefl _), if_pos (show b2 false = 0 from rfl), ite_self]
      rfl
    | succ m ih =>
      intro t M1 s hm hT h10 h9 h0
      obtain ⟨M2, r1, r2, r3, r4⟩ := hbody t M1 s (by omega) hT h10 h9 h0
      rw [decide_eq_true (show t < Tn (szF M) nf by omega)]
      rw [lpf_go (body := fun a : Int32 × Int32 × Int32 × px_M => f_X8_findTrim_17 sh a.2.2.2 R a.1 a.2.1 a.2.2.1) (a := (s.1, b2 true, nI t, M1)) r1]
      exact ih (t + 1) M2 _ (by omega) r2 r3 (fun _ => r4) (fun e => by omega)
  have hT0 : TrI M Mb p fp np nf := ⟨y2, ⟨by rw [y3]; exact a3, by rw [y4]; exact a4⟩, fun f hf => (y5 f hf).2⟩
  obtain ⟨M2, r1, r2, r3⟩ := hloop (Tn (szF M) nf) 0 Mb (-1, fun _ => 0) (by omega) hT0 (fun f hf => by
    rw [(y5 f hf).1]
    have : dgt (szF M) nf 0 f = 0 := by
      have hz : ∀ j, dgt (szF M) j 0 f = 0 := by
        intro j
        induction j with
        | zero => rfl
        | succ j ih =>
          unfold dgt
          split
          · exact Nat.zero_mod _
          · rw [Nat.zero_div]; exact ih
      exact hz nf
    rw [this]; exact (Int32.add_zero _).symm) (fun x => absurd x (by omega)) (fun _ => rfl)
  refine ⟨M2, ?_, r2, r3⟩
  rw [decide_eq_true hTpos] at r1
  unfold f_X8_findTrim
  rw [a1, bd1_e, y1, bd1_e, show lpf (fun a : Int32 × Int32 × Int32 × px_M => f_X8_findTrim_17 sh a.2.2.2 R a.1 a.2.1 a.2.2.1) (-1, 1, 0, Mb) = _ from r1, bd1_e]
end TRIM2
