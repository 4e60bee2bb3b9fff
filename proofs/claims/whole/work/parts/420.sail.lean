/-! the sail: panels, flaps, weights; pushes and turns -/
def PanI (sh : px_Sh) (M : px_M) (R : px_R) (pa : Nat → Nat) (i : Nat) : Prop := (R 7 i = some (pa i) ∧ sh (pa i) = some (5, 0) ∧ 220 ≤ pa i) ∧ (M (pa i) 0 = M 79 i ∧ M (pa i) 1 = M 80 i ∧ M (pa i) 2 = M 81 i ∧ M (pa i) 3 = M 82 i ∧ M (pa i) 4 = M 83 i ∧ M (pa i) 5 = M 86 i ∧ M (pa i) 6 = M 84 i ∧ M (pa i) 7 = M 85 i) ∧ zb (M 86 i) = true ∧ 1 ≤ M 81 i ∧ M 81 i ≤ 1000
def FlapI (M : px_M) (R : px_R) (np : Nat) (pa fp : Nat → Nat) (f : Nat) : Prop := (fp f < np ∧ R 8 f = some (pa (fp f)) ∧ M 87 f = nI (fp f)) ∧ (M (pa (fp f)) 8 = 1 ∧ M (pa (fp f)) 9 = M 88 f ∧ M (pa (fp f)) 10 = M 89 f) ∧ zb (M 89 f) = true ∧ -2 ≤ M 88 f ∧ M 88 f ≤ 2
def SailI (sh : px_Sh) (M : px_M) (R : px_R) (np nf : Nat) (pa fp : Nat → Nat) : Prop :=
  (np ≤ 16 ∧ nf ≤ 4) ∧ (M 6 1 = nI np ∧ M 73 9 = nI np ∧ M 6 3 = nI nf ∧ M 73 10 = nI nf ∧ M 6 4 = M 73 11 ∧ M 6 5 = M 73 12) ∧
  (∀ i, i < np → PanI sh M R pa i) ∧ (∀ i j, i < np → j < np → pa i = pa j → i = j) ∧
  (∀ f, f < nf → FlapI M R np pa fp f) ∧ (∀ f g, f < nf → g < nf → fp f = fp g → f = g) ∧
  (∀ i, i < np → (∀ f, f < nf → fp f ≠ i) → M (pa i) 8 = 0 ∧ M (pa i) 9 = 0 ∧ M (pa i) 10 = 0) ∧
  (∀ i, np ≤ i → M 84 i = 0 ∧ M 85 i = 0 ∧ M 86 i = 0) ∧ (∀ f, nf ≤ f → M 88 f = 0 ∧ M 89 f = 0)
def Isail (sh : px_Sh) (M : px_M) (R : px_R) : Prop := ∃ np nf pa fp, SailI sh M R np nf pa fp
theorem PanI.fr {sh sh' : px_Sh} {M M' : px_M} {R R' : px_R} {pa : Nat → Nat} {i : Nat} (h : PanI sh M R pa i) (hM : sm_ sh 2 M M') (hR : ∀ j, R' 7 j = R 7 j ∧ R' 8 j = R 8 j) (hs : ∀ a, sh a = some (5, 0) → sh' a = some (5, 0)) : PanI sh' M' R' pa i := by
  obtain ⟨⟨h1, h2, h3⟩, h4, h5⟩ := h
  unfold PanI
  rw [(hR i).1, hM 79 i rfl, hM 80 i rfl, hM 81 i rfl, hM 82 i rfl, hM 83 i rfl, hM 84 i rfl, hM 85 i rfl, hM 86 i rfl, hM _ 0 (md_5 h3 h2 0), hM _ 1 (md_5 h3 h2 1), hM _ 2 (md_5 h3 h2 2), hM _ 3 (md_5 h3 h2 3), hM _ 4 (md_5 h3 h2 4), hM _ 5 (md_5 h3 h2 5), hM _ 6 (md_5 h3 h2 6), hM _ 7 (md_5 h3 h2 7)]
  exact ⟨⟨h1, hs _ h2, h3⟩, h4, h5⟩
theorem SailI.fr {sh sh' : px_Sh} {M M' : px_M} {R R' : px_R} {np nf : Nat} {pa fp : Nat → Nat} (h : SailI sh M R np nf pa fp) (hM : sm_ sh 2 M M') (hR : ∀ j, R' 7 j = R 7 j ∧ R' 8 j = R 8 j) (hs : ∀ a, sh a = some (5, 0) → sh' a = some (5, 0)) : SailI sh' M' R' np nf pa fp := by
  obtain ⟨h1, h2, h3, h4, h5, h6, h7, h8, h9⟩ := h
  refine ⟨h1, ?_, fun i hi => (h3 i hi).fr hM hR hs, h4, fun f hf => ?_, h6, fun i hi q => ?_, fun i hi => ?_, fun f hf => ?_⟩
  · rw [hM 6 1 rfl, hM 73 9 rfl, hM 6 3 rfl, hM 73 10 rfl, hM 6 4 rfl, hM 6 5 rfl, hM 73 11 rfl, hM 73 12 rfl]; exact h2
  · have := h5 f hf
    unfold FlapI at this ⊢
    obtain ⟨⟨-, k2, k3⟩, -⟩ := h3 _ this.1.1
    rw [(hR f).2, hM 87 f rfl, hM 88 f rfl, hM 89 f rfl, hM _ 8 (md_5 k3 k2 8), hM _ 9 (md_5 k3 k2 9), hM _ 10 (md_5 k3 k2 10)]
    exact this
  · obtain ⟨⟨-, k2, k3⟩, -⟩ := h3 i hi
    rw [hM _ 8 (md_5 k3 k2 8), hM _ 9 (md_5 k3 k2 9), hM _ 10 (md_5 k3 k2 10)]
    exact h7 i hi q
  · rw [hM 84 i rfl, hM 85 i rfl, hM 86 i rfl]; exact h8 i hi
  · rw [hM 88 f rfl, hM 89 f rfl]; exact h9 f hf
theorem sm_u0 {sh : px_Sh} {M : px_M} {k : Nat} (hk : k ≠ 0) (v : Int32) : sm_ sh k M (px_u M 73 0 v) := fun c j e => pu_n (fun q => by rw [q.1, q.2] at e; exact hk e.symm)
theorem SailI.u0 {sh : px_Sh} {M : px_M} {R : px_R} {np nf : Nat} {pa fp : Nat → Nat} (h : SailI sh M R np nf pa fp) (v : Int32) : SailI sh (px_u M 73 0 v) R np nf pa fp := h.fr (sm_u0 (by decide) v) (fun _ => ⟨rfl, rfl⟩) (fun _ q => q)
/-! slants -/
def cl8 (x : Int32) : Int32 := if -8 ≤ x then (if x ≤ 8 then x else 8) else -8
theorem e_slantFor {sh : px_Sh} {M : px_M} {a : Nat} (h : hk sh a 5 = true) (p1 p2 : Int32) : f_X5_slantFor sh M a p1 p2 = some (cl8 (p1 + M a 6 + p2)) := by
  unfold f_X5_slantFor
  rw [ok_t h, e_min, bd1_e, e_max, bd1_e]
  unfold cl8
  congr 1
  by_cases h1 : -8 ≤ p1 + M a 6 + p2
  · by_cases h2 : p1 + M a 6 + p2 ≤ 8
    · rw [if_pos h1, if_pos h2]
      by_cases h3 : p1 + M a 6 + p2 < 8
      · rw [if_pos h3]
        by_cases h4 : -8 < p1 + M a 6 + p2
        · rw [if_pos h4]
        · rw [if_neg h4]; exact Int32.le_antisymm h1 (Int32.not_lt.mp h4)
      · rw [if_neg h3, if_pos (by decide)]; exact Int32.le_antisymm (Int32.not_lt.mp h3) h2
    · rw [if_pos h1, if_neg h2, if_neg (fun q => h2 (Int32.le_of_lt q)), if_pos (by decide)]
  · rw [if_neg h1, if_pos (Int32.lt_trans (Int32.not_le.mp h1) (by decide)), if_neg (fun q => h1 (Int32.le_of_lt q))]
theorem cl8_r (x : Int32) : ∃ k : Nat, k < 17 ∧ cl8 x = nI k - 8 := by
  unfold cl8
  by_cases h1 : -8 ≤ x
  · by_cases h2 : x ≤ 8
    · rw [if_pos h1, if_pos h2]
      have a1 := Int32.le_iff_toInt_le.mp h1
      have a2 := Int32.le_iff_toInt_le.mp h2
      refine ⟨(x.toInt + 8).toNat, ?_, ?_⟩
      · have : (8 : Int32).toInt = 8 := by decide
        omega
      · have b1 : (-8 : Int32).toInt = -8 := by decide
        have b2 : (8 : Int32).toInt = 8 := by decide
        apply Int32.toInt_inj.mp
        rw [show (8 : Int32) = nI 8 from rfl, pk_sub_toInt (by omega) (by decide)]
        omega
    · rw [if_pos h1, if_neg h2]; exact ⟨16, by decide, by decide⟩
  · rw [if_neg h1]; exact ⟨0, by decide, by decide⟩
def cosv (s : Int32) : Int64 := (px_cos (am s).toNatClampNeg).toInt64
def sinv (s : Int32) : Int64 := if 0 ≤ s then (px_sin s.toNatClampNeg).toInt64 else (-(px_sin (-s).toNatClampNeg)).toInt64
theorem t_ix : ∀ k, k < 17 → ix (am (nI k - 8)) 9 = true := by decide +kernel
theorem t_ixs : ∀ k, k < 17 → (0 ≤ nI k - 8 → ix (nI k - 8) 9 = true) ∧ (¬ 0 ≤ nI k - 8 → ix (-(nI k - 8)) 9 = true) := by decide +kernel
theorem t_cos : ∀ k, k < 17 → f_X12_cos (nI k - 8) = some (cosv (nI k - 8)) := by decide +kernel
theorem t_sin : ∀ k, k < 17 → f_X12_sin (nI k - 8) = some (sinv (nI k - 8)) := by decide +kernel
theorem c_ix (x : Int32) : ix (am (cl8 x)) 9 = true := by
  obtain ⟨k, hk, e⟩ := cl8_r x
  rw [e]; exact t_ix k hk
theorem c_ixp {x : Int32} (h : 0 ≤ cl8 x) : ix (cl8 x) 9 = true := by
  obtain ⟨k, hk, e⟩ := cl8_r x
  rw [e] at h ⊢; exact (t_ixs k hk).1 h
theorem c_ixn {x : Int32} (h : ¬ 0 ≤ cl8 x) : ix (-(cl8 x)) 9 = true := by
  obtain ⟨k, hk, e⟩ := cl8_r x
  rw [e] at h ⊢; exact (t_ixs k hk).2 h
theorem e_cos (x : Int32) : f_X12_cos (cl8 x) = some (cosv (cl8 x)) := by
  obtain ⟨k, hk, e⟩ := cl8_r x
  rw [e]; exact t_cos k hk
theorem e_sin (x : Int32) : f_X12_sin (cl8 x) = some (sinv (cl8 x)) := by
  obtain ⟨k, hk, e⟩ := cl8_r x
  rw [e]; exact t_sin k hk
/-! one panel -/
def vpx (ar s bk kp : Int32) : Int32 := (((((ar.toInt64 * cosv s) * ((1000 * kp.toInt64) + ((2 * bk.toInt64) * cosv s))) / 100000000) : Int64).toInt32)
def vpy (ar s bk : Int32) : Int32 := ((((ar.toInt64 * cosv s) * ((2 * bk.toInt64) * sinv s)) / 100000000) : Int64).toInt32
def vpr (ar s bk kp : Int32) : Int32 := (((((ar.toInt64 * cosv s) * cosv s) * ((2 * bk.toInt64) + kp.toInt64)) / 100000000) : Int64).toInt32
theorem e_pushX5 {sh : px_Sh} {M : px_M} {a : Nat} (h : hk sh a 5 = true) (p1 p2 p3 : Int32) : f_X5_pushX sh M a p1 p2 p3 = some (if M a 5 = 0 then vpx (M a 2) (cl8 (p1 + M a 6 + M a 9)) p2 p3 else 0) := by
  unfold f_X5_pushX
  simp only [ok_t h, e_slantFor h, bd1_e, e_abs, nm_u, ok_t (c_ix _)]
  split <;> rfl
theorem e_pushY5 {sh : px_Sh} {M : px_M} {a : Nat} (h : hk sh a 5 = true) (p1 : Int32) : f_X5_pushY sh M a p1 = some (if M a 5 = 0 then vpy (M a 2) (cl8 (p1 + M a 6 + M a 9)) (M a 3) else 0) := by
  unfold f_X5_pushY f_X5_pushY_50
  simp only [ok_t h, e_slantFor h, bd1_e, e_abs, nm_u, ok_t (c_ix _)]
  split
  · split
    next hc => rw [ok_t (c_ixp hc)]; unfold vpy sinv; rw [if_pos hc]; rfl
    next hc => rw [ok_t (c_ixn hc)]; unfold vpy sinv; rw [if_neg hc]; rfl
  · rfl
theorem e_press5 {sh : px_Sh} {M : px_M} {a : Nat} (h : hk sh a 5 = true) (p1 p2 : Int32) : f_X5_press sh M a p1 p2 = some (if M a 5 = 0 then vpr (M a 2) (cl8 (p1 + M a 6 + p2)) (M a 3) (M a 4) else 0) := by
  unfold f_X5_press
  simp only [ok_t h, e_slantFor h, bd1_e, e_abs, nm_u, ok_t (c_ix _)]
  split <;> rfl
/-- the reference's flap of a panel -/
theorem m_flapOf {M : px_M} {nf : Nat} (hn : nf ≤ 4) (h : M 73 10 = nI nf) (fp : Nat → Nat) (hf : ∀ f, f < nf → M 87 f = nI (fp f) ∧ fp f < 16) {i : Nat} (hi : i < 16) :
    (f_X12_flapOf M (nI i) = some (-1) ∧ ∀ f, f < nf → fp f ≠ i) ∨ ∃ f, f < nf ∧ fp f = i ∧ f_X12_flapOf M (nI i) = some (nI f) := by
  have K := lpf_find (body := fun a : Int32 => f_X12_flapOf_2 M (nI i) a) (β := Int32 ⊕ Unit) nI nf (fun f => fp f = i) (fun f => .inl (nI f)) (.inr ())
    (fun f hf2 hc => by
      have := hf f hf2
      show f_X12_flapOf_2 M (nI i) (nI f) = _
      unfold f_X12_flapOf_2
      rw [h, if_neg (nI_ge hf2 (by omega)), ok_t (ix_k (show f < 4 by omega) (by decide)), nI_clamp (by omega), this.1, if_neg (nI_eq' (by omega) (by omega) hc), nI_1])
    (fun f hf2 hc => by
      have := hf f hf2
      show f_X12_flapOf_2 M (nI i) (nI f) = _
      unfold f_X12_flapOf_2
      rw [h, if_neg (nI_ge hf2 (by omega)), ok_t (ix_k (show f < 4 by omega) (by decide)), nI_clamp (by omega), this.1, if_pos (by rw [hc])])
    (by
      show f_X12_flapOf_2 M (nI i) (nI nf) = _
      unfold f_X12_flapOf_2
      rw [h, if_pos (Int32.le_refl _)]) nf 0 (by omega)
  unfold f_X12_flapOf
  rcases K with ⟨h1, h2⟩ | ⟨f, -, h2, h3, -, h5⟩
  · left
    refine ⟨?_, fun f hf2 => h2 f (by omega) hf2⟩
    exact bdS_r (b := ()) h1
  · right
    refine ⟨f, h2, h3, ?_⟩
    exact bdS_l (a := nI f) h5
theorem m_slantOf {sh : px_Sh} {M : px_M} {R : px_R} {np nf : Nat} {pa fp : Nat → Nat} (h : SailI sh M R np nf pa fp) {i : Nat} (hi : i < np) (p : Int32) : f_X12_slantOf M (nI i) p = some (cl8 (p + M (pa i) 6 + M (pa i) 9)) := by
  obtain ⟨h1, h2, h3, h4, h5, h6, h7, h8, h9⟩ := h
  have hp := h3 i hi
  have e84 : M (pa i) 6 = M 84 i := hp.2.1.2.2.2.2.2.2.1
  have hcl : ∀ z y : Int32, f_X12_slantOf_29 M z y = some (cl8 (y + z)) := by
    intro z y
    unfold f_X12_slantOf_29 f_X12_slantOf_58 cl8
    simp only [nm_u]
    split <;> (try split) <;> rfl
  unfold f_X12_slantOf
  rcases m_flapOf h1.2 h2.2.2.2.1 fp (fun f hf => ⟨(h5 f hf).1.2.2, by have := (h5 f hf).1.1; omega⟩) (i := i) (by omega) with ⟨q1, q2⟩ | ⟨f, q1, q2, q3⟩
  · rw [q1, bd1_e, ok_t (ix_k (show i < 16 by omega) (by decide)), if_pos rfl, hcl, nI_clamp (by omega), e84, (h7 i hi q2).2.1]
  · rw [q3, bd1_e, ok_t (ix_k (show i < 16 by omega) (by decide)), if_neg (fun q => by have := nI_pos' (n := f) (by omega); rw [q] at this; exact absurd this (by decide)), ok_t (ix_k (show f < 4 by omega) (by decide)), hcl, nI_clamp (by omega), nI_clamp (by omega), e84, ← (h5 f q1).2.1.2.1, q2]
theorem m_pushX {sh : px_Sh} {M : px_M} {R : px_R} {np nf : Nat} {pa fp : Nat → Nat} (h : SailI sh M R np nf pa fp) {i : Nat} (hi : i < np) (p b k : Int32) : f_X12_pushX M (nI i) p b k = f_X5_pushX sh M (pa i) p b k := by
  have hp := h.2.2.1 i hi
  have h16 := h.1.1
  rw [e_pushX5 (hk_t hp.1.2.1)]
  unfold f_X12_pushX f_X12_pushX_57
  rw [m_slantOf h hi, bd1_e, e_cos, bd1_e]
  simp only [ok_t (ix_k (show i < 16 by omega) (by decide : 16 < 2 ^ 31)), nI_clamp (show i < 2 ^ 31 by omega)]
  rw [hp.2.1.2.2.1, hp.2.1.2.2.2.2.2.1]
  split <;> rfl
theorem m_pushY {sh : px_Sh} {M : px_M} {R : px_R} {np nf : Nat} {pa fp : Nat → Nat} (h : SailI sh M R np nf pa fp) {i : Nat} (hi : i < np) (p : Int32) : f_X12_pushY M (nI i) p = f_X5_pushY sh M (pa i) p := by
  have hp := h.2.2.1 i hi
  have h16 := h.1.1
  rw [e_pushY5 (hk_t hp.1.2.1)]
  unfold f_X12_pushY f_X12_pushY_54
  rw [m_slantOf h hi, bd1_e, e_cos, e_sin]
  simp only [ok_t (ix_k (show i < 16 by omega) (by decide : 16 < 2 ^ 31)), nI_clamp (show i < 2 ^ 31 by omega), bd1_e]
  rw [hp.2.1.2.2.1, hp.2.1.2.2.2.1, hp.2.1.2.2.2.2.2.1]
  split <;> rfl
theorem m_press {sh : px_Sh} {M : px_M} {R : px_R} {np nf : Nat} {pa fp : Nat → Nat} (h : SailI sh M R np nf pa fp) {i : Nat} (hi : i < np) (p : Int32) : f_X12_press M (nI i) p = f_X5_press sh M (pa i) p (M (pa i) 9) := by
  have hp := h.2.2.1 i hi
  have h16 := h.1.1
  rw [e_press5 (hk_t hp.1.2.1)]
  unfold f_X12_press f_X12_press_59
  rw [m_slantOf h hi, bd1_e, e_cos, bd1_e]
  simp only [ok_t (ix_k (show i < 16 by omega) (by decide : 16 < 2 ^ 31)), nI_clamp (show i < 2 ^ 31 by omega)]
  rw [hp.2.1.2.2.1, hp.2.1.2.2.2.1, hp.2.1.2.2.2.2.1, hp.2.1.2.2.2.2.2.1]
  split <;> rfl
