/-! trim: the reference, and the call -/
section TRIM3
variable {sh : px_Sh} {M : px_M} {L : px_L} {R : px_R} {n np nf : Nat} {pa fp : Nat → Nat}
def stkF (M : px_M) (f : Nat) : Bool := !decide (M 89 f = 0)
theorem szF_stk (M : px_M) (f : Nat) : szF M f = if stkF M f = true then 1 else 5 := by
  unfold szF stkF
  by_cases q : M 89 f = 0
  · rw [if_pos q, decide_eq_true q]; rfl
  · rw [if_neg q, decide_eq_false q]; rfl
/-- the reference's bends at the number v -/
theorem m_dec {sh1 : px_Sh} {L1 : px_L} {R1 : px_R} {na a3 a4 : Nat} {x1 x2 x5 x6 x7 : Int32} (h89 : ∀ f, f < 4 → zb (M 89 f) = true) : ∀ (j v : Nat) (may : Bool) (M1 : px_M), j ≤ 4 → v < 2 ^ 31 → (∀ f, f < 4 → M1 89 f = M 89 f) →
    ∃ M2, lpf (fun a : Int32 × Int32 × Int32 × px_M => f_X12_trim_115 sh1 a.2.2.2 L1 R1 na x1 x2 a3 a4 x5 x6 x7 a.1 a.2.1 a.2.2.1) (nI v, b2 may, nI j - 1, M1) = some (b2 (may && mayB (stkF M) j v), M2) ∧ (∀ f, f < j → M2 88 f = if M 89 f = 0 then nI (dgt (fun _ => 5) j v f) - 2 else M1 88 f) ∧ ∀ c i, ¬ (c = 88 ∧ i < j) → M2 c i = M1 c i
  | 0, v, may, M1, _, _, _ => by
    refine ⟨M1, lpf_end ?_, fun f hf => absurd hf (by omega), fun _ _ _ => rfl⟩
    show f_X12_trim_115 sh1 M1 L1 R1 na x1 x2 a3 a4 x5 x6 x7 (nI v) (b2 may) (nI 0 - 1) = _
    unfold f_X12_trim_115
    rw [if_pos (by decide)]
    unfold mayB
    rw [Bool.and_true]
  | j + 1, v, may, M1, hj, hv, h1 => by
    have hx : ix (nI j) 4 = true := ix_k (show j < 4 by omega) (by decide)
    have hd5 : nI v / 5 = nI (v / 5) := pk_div (d := 5) hv (by decide) (by decide)
    have hm5 : nI v - nI v / 5 * 5 = nI (v % 5) := pk_rem (d := 5) hv (by decide) (by decide)
    have hdv : v / 5 < 2 ^ 31 := Nat.lt_of_le_of_lt (Nat.div_le_self _ _) hv
    have hj1 : nI j + -1 = nI j - 1 := by rw [Int32.sub_eq_add_neg]
    have hz2 : nI (v % 5) - 2 = -2 ↔ v % 5 = 0 := by
      constructor
      · intro q
        have q2 : nI (v % 5) = nI 0 := by
          have : nI (v % 5) - 2 + 2 = -2 + 2 := by rw [q]
          have e1 : nI (v % 5) - 2 + 2 = nI (v % 5) := by grind
          rw [e1] at this
          rw [this]; decide
        exact (nI_eq (by omega) (by decide)).mp q2
      · intro q; rw [q]; decide
    by_cases q : M 89 j = 0
    · have hb : f_X12_trim_115 sh1 M1 L1 R1 na x1 x2 a3 a4 x5 x6 x7 (nI v) (b2 may) (nI (j + 1) - 1) = some (.inl (nI (v / 5), b2 may, nI j - 1, px_u M1 88 j (nI (v % 5) - 2))) := by
        unfold f_X12_trim_115 f_X12_trim_175
        rw [nI_pred, if_neg (nI_pos (by omega)), hm5, hd5, nm_u, nm_u, ok_t hx, nI_clamp (by omega), h1 j (by omega), if_pos q, ok_t hx, nm_u, hj1]
      obtain ⟨M2, r1, r2, r3⟩ := m_dec h89 j (v / 5) may (px_u M1 88 j (nI (v % 5) - 2)) (by omega) hdv (fun f hf => by rw [pu_n (by omega)]; exact h1 f hf)
      refine ⟨M2, ?_, fun f hf => ?_, fun c i hn => by rw [r3 c i (by omega), pu_n (by omega)]⟩
      · rw [lpf_go (body := fun a : Int32 × Int32 × Int32 × px_M => f_X12_trim_115 sh1 a.2.2.2 L1 R1 na x1 x2 a3 a4 x5 x6 x7 a.1 a.2.1 a.2.2.1) (a := (nI v, b2 may, nI (j + 1) - 1, M1)) hb, r1]
        have : mayB (stkF M) (j + 1) v = mayB (stkF M) j (v / 5) := by
          show (mayB (stkF M) j (v / 5) && (!stkF M j || v % 5 == 0)) = _
          unfold stkF
          rw [decide_eq_true q]
          simp
        rw [this]
      · unfold dgt
        by_cases e : f = j
        · rw [if_pos e, e, if_pos q, r3 88 j (by omega), px_u_in]
        · rw [if_neg e, r2 f (by omega)]
          by_cases q3 : M 89 f = 0
          · rw [if_pos q3, if_pos q3]
          · rw [if_neg q3, if_neg q3, pu_n (by omega)]
    · have hb : f_X12_trim_115 sh1 M1 L1 R1 na x1 x2 a3 a4 x5 x6 x7 (nI v) (b2 may) (nI (j + 1) - 1) = some (.inl (nI (v / 5), b2 (may && (v % 5 == 0)), nI j - 1, M1)) := by
        unfold f_X12_trim_115 f_X12_trim_160 f_X12_trim_161 f_X12_trim_175
        rw [nI_pred, if_neg (nI_pos (by omega)), hm5, hd5, nm_u, nm_u, ok_t hx, nI_clamp (by omega), h1 j (by omega), if_neg q, hj1, ifi b2_0, ifi hz2]
        cases may with
        | false => rfl
        | true =>
          rw [if_neg (by decide)]
          by_cases q4 : v % 5 = 0
          · rw [if_pos q4, q4]; rfl
          · rw [if_neg q4, show (v % 5 == 0) = false from beq_eq_false_iff_ne.mpr q4]; rfl
      obtain ⟨M2, r1, r2, r3⟩ := m_dec h89 j (v / 5) (may && (v % 5 == 0)) M1 (by omega) hdv h1
      refine ⟨M2, ?_, fun f hf => ?_, fun c i hn => r3 c i (by omega)⟩
      · rw [lpf_go (body := fun a : Int32 × Int32 × Int32 × px_M => f_X12_trim_115 sh1 a.2.2.2 L1 R1 na x1 x2 a3 a4 x5 x6 x7 a.1 a.2.1 a.2.2.1) (a := (nI v, b2 may, nI (j + 1) - 1, M1)) hb, r1]
        have : (may && (v % 5 == 0) && mayB (stkF M) j (v / 5)) = (may && mayB (stkF M) (j + 1) v) := by
          show _ = (may && (mayB (stkF M) j (v / 5) && (!stkF M j || v % 5 == 0)))
          unfold stkF
          rw [decide_eq_false q]
          cases may <;> cases (v % 5 == 0) <;> cases mayB (fun f => !decide (M 89 f = 0)) j (v / 5) <;> rfl
        rw [this]
      · unfold dgt
        by_cases e : f = j
        · rw [if_pos e, e, if_neg q, r3 88 j (by omega)]
        · rw [if_neg e]; exact r2 f (by omega)
theorem hB_congr {M M' : px_M} (h : ∀ c j, 79 ≤ c → c ≤ 86 → M' c j = M c j) (h11 : M' 73 11 = M 73 11) (h12 : M' 73 12 = M 73 12) (p ax : Int32) (i : Nat) (b : Int32) : hB M' p ax i b = hB M p ax i b := by
  unfold hB
  rw [h 86 i (by decide) (by decide), h 81 i (by decide) (by decide), h 84 i (by decide) (by decide), h 82 i (by decide) (by decide), h 83 i (by decide) (by decide), h 79 i (by decide) (by decide), h 80 i (by decide) (by decide), h11, h12]
theorem bqF_congr {fp : Nat → Nat} {b b' : Nat → Int32} {i : Nat} : ∀ k, (∀ f, f < k → b f = b' f) → bqF fp b k i = bqF fp b' k i
  | 0, _ => rfl
  | k + 1, h => by
    unfold bqF
    rw [h k (by omega), bqF_congr k fun f hf => h f (by omega)]
/-- the reference's memory while it goes through the numbers: Mr is it when it begins -/
def RfI (M Mr M' : px_M) (nf n : Nat) : Prop := (∀ c j, c ≠ 88 → c ≠ n + 1 → M' c j = Mr c j) ∧ (∀ f, f < nf → ¬ M 89 f = 0 → M' 88 f = M 88 f) ∧ ∀ f, nf ≤ f → M' 88 f = Mr 88 f
set_option maxHeartbeats 2000000 in
theorem m_trimLoop (h : SailI sh M R np nf pa fp) (hn : 220 ≤ n) {sh1 : px_Sh} {L1 : px_L} {R1 : px_R} (hs2 : sh1 (n + 1) = some (13, 4)) {Mr : px_M} (hMr : ∀ c j, md sh c j = 2 → ¬ (c = 6 ∧ (j = 11 ∨ j = 12)) → Mr c j = M c j) (hn2 : ∀ j, Mr (n + 1) j = 0) (p x2 : Int32) :
    ∃ M2, lpf (fun a : Int32 × Int32 × px_M => f_X12_trim_93 sh1 a.2.2 L1 R1 (n + 1 + 1) p x2 n (n + 1) (nI (5 ^ nf)) a.1 a.2.1) (-1, 0, Mr) = some ((fld (fun v s => if mayB (stkF M) nf v = true then stpT M p fp nf np (dgt (fun _ => 5) nf v) s else s) 0 (5 ^ nf) (-1, fun _ => 0)).1, M2) ∧ RfI M Mr M2 nf n ∧ ∀ f, f < nf → M2 (n + 1) f = (fld (fun v s => if mayB (stkF M) nf v = true then stpT M p fp nf np (dgt (fun _ => 5) nf v) s else s) 0 (5 ^ nf) (-1, fun _ => 0)).2 f := by
  have h4 := h.1.2
  have h16 := h.1.1
  have h625 : 5 ^ nf ≤ 5 ^ 4 := Nat.pow_le_pow_right (by decide) h4
  have h54 : (5 : Nat) ^ 4 = 625 := by decide
  have hz89 : ∀ f, f < 4 → zb (M 89 f) = true := by
    intro f hf
    by_cases q : f < nf
    · exact (h.2.2.2.2.1 f q).2.2.1
    · rw [(h.2.2.2.2.2.2.2.2 f (by omega)).2]; rfl
  have K := lpf_for (body := fun a : Int32 × Int32 × px_M => f_X12_trim_93 sh1 a.2.2 L1 R1 (n + 1 + 1) p x2 n (n + 1) (nI (5 ^ nf)) a.1 a.2.1) (fun v (s : (Int32 × (Nat → Int32)) × px_M) => (s.1.1, nI v, s.2))
  have hbody : ∀ v (s : Int32 × (Nat → Int32)) (M1 : px_M), v < 5 ^ nf → RfI M Mr M1 nf n → (∀ f, f < nf → M1 (n + 1) f = s.2 f) → ∃ M2, f_X12_trim_93 sh1 M1 L1 R1 (n + 1 + 1) p x2 n (n + 1) (nI (5 ^ nf)) s.1 (nI v) = some (.inl ((if mayB (stkF M) nf v = true then stpT M p fp nf np (dgt (fun _ => 5) nf v) s else s).1, nI (v + 1), M2)) ∧ RfI M Mr M2 nf n ∧ ∀ f, f < nf → M2 (n + 1) f = (if mayB (stkF M) nf v = true then stpT M p fp nf np (dgt (fun _ => 5) nf v) s else s).2 f := by
    intro v s M1 hv hR hb
    obtain ⟨i1, i2, i3⟩ := hR
    have f10 : M1 73 10 = nI nf := by rw [i1 73 10 (by decide) (by omega), hMr 73 10 rfl (by omega)]; exact h.2.1.2.2.2.1
    obtain ⟨M2, d1, d2, d3⟩ := m_dec (M := M) (sh1 := sh1) (L1 := L1) (R1 := R1) (na := n + 1 + 1) (a3 := n) (a4 := n + 1) (x1 := p) (x2 := x2) (x5 := nI (5 ^ nf)) (x6 := s.1) (x7 := nI v) hz89 nf v true M1 h4 (by omega) (fun f hf => by rw [i1 89 f (by decide) (by omega), hMr 89 f rfl (by omega)])
    have hR2 : RfI M Mr M2 nf n := by
      refine ⟨fun c j c1 c2 => by rw [d3 c j (by omega)]; exact i1 c j c1 c2, fun f hf q => ?_, fun f hf => by rw [d3 88 f (by omega)]; exact i3 f hf⟩
      rw [d2 f hf, if_neg q]; exact i2 f hf q
    have hb2 : ∀ f, f < nf → M2 (n + 1) f = s.2 f := fun f hf => by rw [d3 (n + 1) f (by omega)]; exact hb f hf
    have hrow : mayB (stkF M) nf v = true → ∀ f, f < nf → M2 88 f = rowV M nf (dgt (fun _ => 5) nf v) f := by
      intro hm f hf
      unfold rowV fiF
      rw [if_pos hf, d2 f hf]
      by_cases q : M 89 f = 0
      · rw [if_pos q, if_pos q]; grind
      · rw [if_neg q, if_neg q, i2 f hf q]
        have hz : ∀ j u, mayB (stkF M) j u = true → f < j → dgt (fun _ => 5) j u f = 0 := by
          intro j
          induction j with
          | zero => intro u _ x; exact absurd x (by omega)
          | succ j ih =>
            intro u hu hj
            have hu' : (mayB (stkF M) j (u / 5) && (!stkF M j || u % 5 == 0)) = true := hu
            rw [Bool.and_eq_true] at hu'
            unfold dgt
            by_cases e : f = j
            · rw [if_pos e]
              have h2 := hu'.2
              rw [← e] at h2
              unfold stkF at h2
              rw [decide_eq_false q] at h2
              simpa using h2
            · rw [if_neg e]; exact ih _ hu'.1 (by omega)
        rw [hz nf v hm hf]
        exact (Int32.add_zero _).symm
    have hturn : mayB (stkF M) nf v = true → ∀ ax, f_X12_turned M2 p ax = some (Sg (fun i => hB M p ax i (bqF fp (rowV M nf (dgt (fun _ => 5) nf v)) nf i)) np) := by
      intro hm ax
      have e : ∀ c j, md sh c j = 2 → c ≠ 6 → c ≠ 88 → c < 220 → M2 c j = M c j := fun c j q1 q2 q3 q4 => by rw [hR2.1 c j q3 (by omega)]; exact hMr c j q1 (by omega)
      rw [m_turned2 (M := M2) (np := np) (nf := nf) (fp := fp) h16 (by rw [e 73 9 rfl (by decide) (by decide) (by decide)]; exact h.2.1.2.1) h4 (by rw [e 73 10 rfl (by decide) (by decide) (by decide)]; exact h.2.1.2.2.2.1) (fun f hf => ⟨by rw [e 87 f rfl (by decide) (by decide) (by decide)]; exact (h.2.2.2.2.1 f hf).1.2.2, by have := (h.2.2.2.2.1 f hf).1.1; omega⟩) h.2.2.2.2.2.1]
      congr 1
      refine Sg_congr np fun i hi => ?_
      rw [bqF_congr nf (hrow hm)]
      refine hB_congr (fun c j c1 c2 => ?_) (e 73 11 rfl (by decide) (by decide) (by decide)) (e 73 12 rfl (by decide) (by decide) (by decide)) p ax i _
      refine e c j ?_ (by omega) (by omega) (by omega)
      unfold md
      rw [if_pos (by omega), if_neg (by omega)]
      unfold mdc
      simp only [show ¬ c ≤ 0 by omega, show ¬ c ≤ 3 by omega, show ¬ c ≤ 5 by omega, show ¬ c ≤ 8 by omega, show ¬ c ≤ 13 by omega, show ¬ c ≤ 18 by omega, show ¬ c = 19 by omega, show ¬ c ≤ 25 by omega, show ¬ c = 26 by omega, show ¬ c ≤ 32 by omega, show ¬ c = 36 by omega, show ¬ c ≤ 39 by omega, show ¬ c ≤ 48 by omega, show ¬ c ≤ 60 by omega, show ¬ c ≤ 65 by omega, show ¬ c ≤ 67 by omega, show ¬ c ≤ 71 by omega, show ¬ c ≤ 73 by omega, show ¬ c = 74 by omega, show ¬ c ≤ 77 by omega, show ¬ c = 78 by omega, show c ≤ 89 by omega, if_false, if_true]
    have hstart : f_X12_trim_93 sh1 M1 L1 R1 (n + 1 + 1) p x2 n (n + 1) (nI (5 ^ nf)) s.1 (nI v) = if mayB (stkF M) nf v = true then f_X12_trim_209 sh1 M2 L1 R1 (n + 1 + 1) p x2 n (n + 1) (nI (5 ^ nf)) s.1 (nI v) 1 (amtT M p fp nf np (rowV M nf (dgt (fun _ => 5) nf v))) else f_X12_trim_209 sh1 M2 L1 R1 (n + 1 + 1) p x2 n (n + 1) (nI (5 ^ nf)) s.1 (nI v) 0 0 := by
      unfold f_X12_trim_93
      rw [if_neg (nI_ge hv (by omega)), f10, nm_u, show lpf (fun a : Int32 × Int32 × Int32 × px_M => f_X12_trim_115 sh1 a.2.2.2 L1 R1 (n + 1 + 1) p x2 n (n + 1) (nI (5 ^ nf)) s.1 (nI v) a.1 a.2.1 a.2.2.1) (nI v, 1, nI nf - 1, M1) = _ from d1, bd1_e, Bool.true_and]
      cases hm : mayB (stkF M) nf v with
      | false => rw [if_pos (show b2 false = 0 from rfl)]; rfl
      | true =>
        rw [if_neg (show ¬ b2 true = 0 by decide), if_pos rfl]
        dsimp only
        rw [hturn hm 0, bd1_e, e_amount, bd1_e, hturn hm 1, bd1_e, e_amount, bd1_e]
        rfl
    rw [hstart]
    have h266 : ∀ z, f_X12_trim_266 sh1 M2 L1 R1 (n + 1 + 1) p x2 n (n + 1) (nI (5 ^ nf)) z (nI v) = some (.inl (z, nI (v + 1), M2)) := by
      intro z
      unfold f_X12_trim_266
      rw [nI_1]
    by_cases hm : mayB (stkF M) nf v = true
    · rw [if_pos hm, if_pos hm]
      have htake : ∃ M3, f_X12_trim_232 sh1 M2 L1 R1 (n + 1 + 1) p x2 n (n + 1) (nI (5 ^ nf)) (nI v) (amtT M p fp nf np (rowV M nf (dgt (fun _ => 5) nf v))) = some (.inl (amtT M p fp nf np (rowV M nf (dgt (fun _ => 5) nf v)), nI (v + 1), M3)) ∧ RfI M Mr M3 nf n ∧ ∀ f, f < nf → M3 (n + 1) f = rowV M nf (dgt (fun _ => 5) nf v) f := by
        have K2 := lpf_for (body := fun a : Int32 × px_M => f_X12_trim_239 sh1 a.2 L1 R1 (n + 1 + 1) p x2 n (n + 1) (nI (5 ^ nf)) (amtT M p fp nf np (rowV M nf (dgt (fun _ => 5) nf v))) (nI v) a.1) (fun f (M' : px_M) => (nI f, M')) (fun f M' => px_u M' (n + 1) f (M2 88 f))
          (fun k M' => (∀ c j, c ≠ n + 1 → M' c j = M2 c j) ∧ ∀ f, f < k → M' (n + 1) f = M2 88 f) (fun M' => M') nf
          (fun f M' hf hP => by
            obtain ⟨p1, p2⟩ := hP
            refine ⟨?_, fun c j q => by rw [pu_n (by omega)]; exact p1 c j q, fun g hg => ?_⟩
            · show f_X12_trim_239 sh1 M' L1 R1 (n + 1 + 1) p x2 n (n + 1) _ _ _ (nI f) = _
              unfold f_X12_trim_239
              rw [p1 73 10 (by omega), d3 73 10 (by omega), f10, if_neg (nI_ge hf (by omega)), ok_t (ix_k (show f < 4 by omega) (by decide)), nm_u, nI_clamp (by omega), p1 88 f (by omega), ok_t (xk_t hs2 (ix_k (show f < 4 by omega) (by decide))), nm_u, nI_1]
            · by_cases e : g = f
              · subst e; exact px_u_in _ _ _ _
              · rw [pu_n (by omega)]; exact p2 g (by omega))
          (fun M' hP => by
            show f_X12_trim_239 sh1 M' L1 R1 (n + 1 + 1) p x2 n (n + 1) _ _ _ (nI nf) = _
            unfold f_X12_trim_239
            rw [hP.1 73 10 (by omega), d3 73 10 (by omega), f10, if_pos (Int32.le_refl _)]) nf 0 M2 (by omega) ⟨fun _ _ _ => rfl, fun f hf => absurd hf (by omega)⟩
        obtain ⟨k1, k2, k3⟩ := K2
        refine ⟨fld (fun f (M' : px_M) => px_u M' (n + 1) f (M2 88 f)) 0 nf M2, ?_, ⟨fun c j c1 c2 => by rw [k2 c j c2]; exact hR2.1 c j c1 c2, fun f hf q => by rw [k2 88 f (by omega)]; exact hR2.2.1 f hf q, fun f hf => by rw [k2 88 f (by omega)]; exact hR2.2.2 f hf⟩, fun f hf => by rw [k3 f hf]; exact hrow hm f hf⟩
        unfold f_X12_trim_232 f_X12_trim_266
        rw [show lpf (fun a : Int32 × px_M => f_X12_trim_239 sh1 a.2 L1 R1 (n + 1 + 1) p x2 n (n + 1) (nI (5 ^ nf)) (amtT M p fp nf np (rowV M nf (dgt (fun _ => 5) nf v))) (nI v) a.1) (0, M2) = _ from k1, bd1_e, nI_1]
      unfold f_X12_trim_209 stpT
      rw [if_neg (by decide)]
      by_cases q1 : s.1 = -1
      · rw [if_pos q1, if_pos (Or.inl q1)]; exact htake
      · rw [if_neg q1]
        by_cases q2 : amtT M p fp nf np (rowV M nf (dgt (fun _ => 5) nf v)) < s.1
        · rw [if_pos q2, if_pos (Or.inr q2)]; exact htake
        · rw [if_neg q2, if_neg (fun x => by
            rcases x with x | x
            · exact q1 x
            · exact q2 x), h266]
          exact ⟨M2, rfl, hR2, hb2⟩
    · rw [if_neg hm, if_neg hm]
      unfold f_X12_trim_209
      rw [if_pos rfl, h266]
      exact ⟨M2, rfl, hR2, hb2⟩
  have hloop : ∀ (m v : Nat) (s : Int32 × (Nat → Int32)) (M1 : px_M), v + m = 5 ^ nf → RfI M Mr M1 nf n → (∀ f, f < nf → M1 (n + 1) f = s.2 f) → ∃ M2, lpf (fun a : Int32 × Int32 × px_M => f_X12_trim_93 sh1 a.2.2 L1 R1 (n + 1 + 1) p x2 n (n + 1) (nI (5 ^ nf)) a.1 a.2.1) (s.1, nI v, M1) = some ((fld (fun v s => if mayB (stkF M) nf v = true then stpT M p fp nf np (dgt (fun _ => 5) nf v) s else s) v m s).1, M2) ∧ RfI M Mr M2 nf n ∧ ∀ f, f < nf → M2 (n + 1) f = (fld (fun v s => if mayB (stkF M) nf v = true then stpT M p fp nf np (dgt (fun _ => 5) nf v) s else s) v m s).2 f := by
    intro m
    induction m with
    | zero =>
      intro v s M1 hv hR hb
      obtain rfl : v = 5 ^ nf := by omega
      refine ⟨M1, lpf_end ?_, hR, hb⟩
      show f_X12_trim_93 sh1 M1 L1 R1 (n + 1 + 1) p x2 n (n + 1) (nI (5 ^ nf)) s.1 (nI (5 ^ nf)) = _
      unfold f_X12_trim_93
      rw [if_pos (Int32.le_refl _)]
      rfl
    | succ m ih =>
      intro v s M1 hv hR hb
      obtain ⟨M2, r1, r2, r3⟩ := hbody v s M1 (by omega) hR hb
      rw [lpf_go (body := fun a : Int32 × Int32 × px_M => f_X12_trim_93 sh1 a.2.2 L1 R1 (n + 1 + 1) p x2 n (n + 1) (nI (5 ^ nf)) a.1 a.2.1) (a := (s.1, nI v, M1)) r1]
      exact ih (v + 1) _ M2 (by omega) r2 r3
  exact hloop (5 ^ nf) 0 (-1, fun _ => 0) Mr (by omega) ⟨fun _ _ _ _ => rfl, fun f hf q => by rw [hMr 88 f rfl (by omega)], fun _ _ => rfl⟩ (fun f hf => hn2 f)
end TRIM3
