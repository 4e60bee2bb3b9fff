/-! sums over the panels -/
def pX (M : px_M) (pa : Nat → Nat) (p : Int32) (i : Nat) : Int32 := if M (pa i) 5 = 0 then vpx (M (pa i) 2) (cl8 (p + M (pa i) 6 + M (pa i) 9)) (M (pa i) 3) (M (pa i) 4) else 0
def pY (M : px_M) (pa : Nat → Nat) (p : Int32) (i : Nat) : Int32 := if M (pa i) 5 = 0 then vpy (M (pa i) 2) (cl8 (p + M (pa i) 6 + M (pa i) 9)) (M (pa i) 3) else 0
def pR (M : px_M) (pa : Nat → Nat) (p w : Int32) (i : Nat) : Int32 := if M (pa i) 5 = 0 then vpr (M (pa i) 2) (cl8 (p + M (pa i) 6 + w)) (M (pa i) 3) (M (pa i) 4) else 0
def vArm (M : px_M) (pa : Nat → Nat) (ax : Int32) (i : Nat) : Int32 := if ax = 0 then M (pa i) 0 - M 6 4 else M (pa i) 1 - M 6 5
section SAIL
variable {sh : px_Sh} {M M' : px_M} {R : px_R} {np nf : Nat} {pa fp : Nat → Nat}
theorem SailI.m5 (h : SailI sh M R np nf pa fp) {i : Nat} (hi : i < np) (j : Nat) : md sh (pa i) j = 2 := md_5 (h.2.2.1 i hi).1.2.2 (h.2.2.1 i hi).1.2.1 j
theorem pX_fr (h : SailI sh M R np nf pa fp) (hM : sm_ sh 2 M M') (p : Int32) {i : Nat} (hi : i < np) : pX M' pa p i = pX M pa p i := by
  unfold pX
  rw [hM _ 2 (h.m5 hi 2), hM _ 3 (h.m5 hi 3), hM _ 4 (h.m5 hi 4), hM _ 5 (h.m5 hi 5), hM _ 6 (h.m5 hi 6), hM _ 9 (h.m5 hi 9)]
theorem pY_fr (h : SailI sh M R np nf pa fp) (hM : sm_ sh 2 M M') (p : Int32) {i : Nat} (hi : i < np) : pY M' pa p i = pY M pa p i := by
  unfold pY
  rw [hM _ 2 (h.m5 hi 2), hM _ 3 (h.m5 hi 3), hM _ 5 (h.m5 hi 5), hM _ 6 (h.m5 hi 6), hM _ 9 (h.m5 hi 9)]
theorem pR_fr (h : SailI sh M R np nf pa fp) (hM : sm_ sh 2 M M') (p w : Int32) {i : Nat} (hi : i < np) : pR M' pa p w i = pR M pa p w i := by
  unfold pR
  rw [hM _ 2 (h.m5 hi 2), hM _ 3 (h.m5 hi 3), hM _ 4 (h.m5 hi 4), hM _ 5 (h.m5 hi 5), hM _ 6 (h.m5 hi 6)]
theorem vArm_fr (h : SailI sh M R np nf pa fp) (hM : sm_ sh 2 M M') (ax : Int32) {i : Nat} (hi : i < np) : vArm M' pa ax i = vArm M pa ax i := by
  unfold vArm
  rw [hM _ 0 (h.m5 hi 0), hM _ 1 (h.m5 hi 1), hM 6 4 rfl, hM 6 5 rfl]
def sY (M : px_M) (pa : Nat → Nat) (np : Nat) (p : Int32) : Int32 := fld (fun i s => s + pY M pa p i) 0 np 0
def sX (M : px_M) (pa : Nat → Nat) (a np : Nat) (p : Int32) : Int32 := fld (fun i s => s + pX M pa p i) a (np - a) 0
def sT (M : px_M) (pa : Nat → Nat) (np : Nat) (p ax : Int32) : Int32 := fld (fun i s => s + pR M pa p (M (pa i) 9) i * vArm M pa ax i) 0 np 0
theorem sY_fr (h : SailI sh M R np nf pa fp) (hM : sm_ sh 2 M M') (p : Int32) : sY M' pa np p = sY M pa np p := fld_congr _ _ _ fun j _ hj s => by simp only [pY_fr h hM p (show j < np by omega)]
theorem sX_fr (h : SailI sh M R np nf pa fp) (hM : sm_ sh 2 M M') (a : Nat) (p : Int32) : sX M' pa a np p = sX M pa a np p := fld_congr _ _ _ fun j _ hj s => by simp only [pX_fr h hM p (show j < np by omega)]
theorem sT_fr (h : SailI sh M R np nf pa fp) (hM : sm_ sh 2 M M') (p ax : Int32) : sT M' pa np p ax = sT M pa np p ax := fld_congr _ _ _ fun j _ hj s => by simp only [hM _ 9 (h.m5 (show j < np by omega) 9), pR_fr h hM p _ (show j < np by omega), vArm_fr h hM ax (show j < np by omega)]
theorem c_pushY (h : SailI sh M R np nf pa fp) (p : Int32) : f_X8_pushY sh M R p = some (sY M pa np p) := by
  have h16 := h.1.1
  have K := lpf_for (body := fun a : Int32 × Int32 => f_X8_pushY_4 sh M R p a.1 a.2) (fun i (s : Int32) => (s, nI i)) (fun i s => s + pY M pa p i) (fun _ _ => True) (fun s => s) np
    (fun i s hi _ => by
      have hp := (h.2.2.1 i hi).1
      refine ⟨?_, trivial⟩
      show f_X8_pushY_4 sh M R p s (nI i) = _
      unfold f_X8_pushY_4
      rw [h.2.1.1, if_neg (nI_ge hi (by omega)), ok_t (ix_k (show i < 16 by omega) (by decide)), nI_clamp (by omega), hp.1, bd1_e, ok_t (hk_t hp.2.1), e_pushY5 (hk_t hp.2.1), bd1_e, nm_u, nI_1]
      rfl)
    (fun s _ => by
      show f_X8_pushY_4 sh M R p s (nI np) = _
      unfold f_X8_pushY_4
      rw [h.2.1.1, if_pos (Int32.le_refl _)]) np 0 0 (by omega) trivial
  unfold f_X8_pushY
  rw [show ((0, 0) : Int32 × Int32) = (0, nI 0) from rfl, K.1]
  rfl
theorem m_sumY (h : SailI sh M R np nf pa fp) (hM : sm_ sh 2 M M') (p : Int32) : f_X12_sumY M' p = some (sY M pa np p) := by
  have h16 := h.1.1
  have h' : SailI sh M' R np nf pa fp := h.fr hM (fun _ => ⟨rfl, rfl⟩) (fun _ q => q)
  rw [← sY_fr h hM]
  have K := lpf_for (body := fun a : Int32 × Int32 => f_X12_sumY_4 M' p a.1 a.2) (fun i (s : Int32) => (s, nI i)) (fun i s => s + pY M' pa p i) (fun _ _ => True) (fun s => s) np
    (fun i s hi _ => by
      have hp := (h'.2.2.1 i hi).1
      refine ⟨?_, trivial⟩
      show f_X12_sumY_4 M' p s (nI i) = _
      unfold f_X12_sumY_4
      rw [h'.2.1.2.1, if_neg (nI_ge hi (by omega)), m_pushY h' hi, e_pushY5 (hk_t hp.2.1), bd1_e, nm_u, nI_1]
      rfl)
    (fun s _ => by
      show f_X12_sumY_4 M' p s (nI np) = _
      unfold f_X12_sumY_4
      rw [h'.2.1.2.1, if_pos (Int32.le_refl _)]) np 0 0 (by omega) trivial
  unfold f_X12_sumY
  rw [show ((0, 0) : Int32 × Int32) = (0, nI 0) from rfl, K.1]
  rfl
theorem c_pushXFrom (h : SailI sh M R np nf pa fp) {a : Nat} (ha : a ≤ np) (p : Int32) : f_X8_pushXFrom sh M R (nI a) p = some (sX M pa a np p) := by
  have h16 := h.1.1
  have K := lpf_for (body := fun a : Int32 × Int32 => f_X8_pushXFrom_5 sh M R p a.1 a.2) (fun i (s : Int32) => (s, nI i)) (fun i s => s + pX M pa p i) (fun _ _ => True) (fun s => s) np
    (fun i s hi _ => by
      have hp := (h.2.2.1 i hi).1
      refine ⟨?_, trivial⟩
      show f_X8_pushXFrom_5 sh M R p s (nI i) = _
      unfold f_X8_pushXFrom_5
      simp only [h.2.1.1, if_neg (nI_ge hi (by omega : np < 2 ^ 31)), ok_t (ix_k (show i < 16 by omega) (by decide : 16 < 2 ^ 31)), nI_clamp (show i < 2 ^ 31 by omega), hp.1, bd1_e, ok_t (hk_t hp.2.1), e_pushX5 (hk_t hp.2.1), nm_u, nI_1]
      rfl)
    (fun s _ => by
      show f_X8_pushXFrom_5 sh M R p s (nI np) = _
      unfold f_X8_pushXFrom_5
      rw [h.2.1.1, if_pos (Int32.le_refl _)]) (np - a) a 0 (by omega) trivial
  unfold f_X8_pushXFrom
  rw [K.1]
  rfl
theorem m_sumX (h : SailI sh M R np nf pa fp) (hM : sm_ sh 2 M M') (p : Int32) : lpf (fun a : Int32 × Int32 => f_X12_push_56 M' p a.1 a.2) (0, 0) = some (sX M pa 0 np p) := by
  have h16 := h.1.1
  have h' : SailI sh M' R np nf pa fp := h.fr hM (fun _ => ⟨rfl, rfl⟩) (fun _ q => q)
  rw [← sX_fr h hM]
  have K := lpf_for (body := fun a : Int32 × Int32 => f_X12_push_56 M' p a.1 a.2) (fun i (s : Int32) => (s, nI i)) (fun i s => s + pX M' pa p i) (fun _ _ => True) (fun s => s) np
    (fun i s hi _ => by
      have hp := (h'.2.2.1 i hi)
      refine ⟨?_, trivial⟩
      show f_X12_push_56 M' p s (nI i) = _
      unfold f_X12_push_56
      simp only [h'.2.1.2.1, if_neg (nI_ge hi (by omega : np < 2 ^ 31)), ok_t (ix_k (show i < 16 by omega) (by decide : 16 < 2 ^ 31)), nI_clamp (show i < 2 ^ 31 by omega), m_pushX h' hi, e_pushX5 (hk_t hp.1.2.1), bd1_e, nm_u, nI_1]
      rw [← hp.2.1.2.2.2.1, ← hp.2.1.2.2.2.2.1]
      rfl)
    (fun s _ => by
      show f_X12_push_56 M' p s (nI np) = _
      unfold f_X12_push_56
      rw [h'.2.1.2.1, if_pos (Int32.le_refl _)]) np 0 0 (by omega) trivial
  rw [show ((0, 0) : Int32 × Int32) = (0, nI 0) from rfl, K.1]
  rfl
theorem e_arm {a : Nat} (h : hk sh a 5 = true) (ax : Int32) : f_X8_arm sh M a ax = some (if ax = 0 then M a 0 - M 6 4 else M a 1 - M 6 5) := by
  unfold f_X8_arm f_X8_arm_25
  simp only [ok_t h]
  split <;> rfl
theorem c_turnBy (h : SailI sh M R np nf pa fp) (p ax : Int32) : f_X8_turnBy sh M R p ax = some (sT M pa np p ax) := by
  have h16 := h.1.1
  have K := lpf_for (body := fun a : Int32 × Int32 => f_X8_turnBy_5 sh M R p ax a.1 a.2) (fun i (s : Int32) => (s, nI i)) (fun i s => s + pR M pa p (M (pa i) 9) i * vArm M pa ax i) (fun _ _ => True) (fun s => s) np
    (fun i s hi _ => by
      have hp := (h.2.2.1 i hi).1
      refine ⟨?_, trivial⟩
      show f_X8_turnBy_5 sh M R p ax s (nI i) = _
      unfold f_X8_turnBy_5
      simp only [h.2.1.1, if_neg (nI_ge hi (by omega : np < 2 ^ 31)), ok_t (ix_k (show i < 16 by omega) (by decide : 16 < 2 ^ 31)), nI_clamp (show i < 2 ^ 31 by omega), hp.1, bd1_e, ok_t (hk_t hp.2.1), e_press5 (hk_t hp.2.1), e_arm (hk_t hp.2.1), nm_u, nI_1]
      rfl)
    (fun s _ => by
      show f_X8_turnBy_5 sh M R p ax s (nI np) = _
      unfold f_X8_turnBy_5
      rw [h.2.1.1, if_pos (Int32.le_refl _)]) np 0 0 (by omega) trivial
  unfold f_X8_turnBy
  rw [show ((0, 0) : Int32 × Int32) = (0, nI 0) from rfl, K.1]
  rfl
theorem m_turned (h : SailI sh M R np nf pa fp) (hM : sm_ sh 2 M M') (p ax : Int32) : f_X12_turned M' p ax = some (sT M pa np p ax) := by
  have h16 := h.1.1
  have h' : SailI sh M' R np nf pa fp := h.fr hM (fun _ => ⟨rfl, rfl⟩) (fun _ q => q)
  rw [← sT_fr h hM]
  have K := lpf_for (body := fun a : Int32 × Int32 => f_X12_turned_5 M' p ax a.1 a.2) (fun i (s : Int32) => (s, nI i)) (fun i s => s + pR M' pa p (M' (pa i) 9) i * vArm M' pa ax i) (fun _ _ => True) (fun s => s) np
    (fun i s hi _ => by
      have hp := (h'.2.2.1 i hi)
      refine ⟨?_, trivial⟩
      show f_X12_turned_5 M' p ax s (nI i) = _
      unfold f_X12_turned_5 f_X12_turned_53
      simp only [h'.2.1.2.1, if_neg (nI_ge hi (by omega : np < 2 ^ 31)), ok_t (ix_k (show i < 16 by omega) (by decide : 16 < 2 ^ 31)), nI_clamp (show i < 2 ^ 31 by omega), m_press h' hi, e_press5 (hk_t hp.1.2.1), bd1_e, nm_u, nI_1]
      unfold vArm pR
      rw [← hp.2.1.1, ← hp.2.1.2.1, ← h'.2.1.2.2.2.2.1, ← h'.2.1.2.2.2.2.2]
      split <;> rfl)
    (fun s _ => by
      show f_X12_turned_5 M' p ax s (nI np) = _
      unfold f_X12_turned_5
      rw [h'.2.1.2.1, if_pos (Int32.le_refl _)]) np 0 0 (by omega) trivial
  unfold f_X12_turned
  rw [show ((0, 0) : Int32 × Int32) = (0, nI 0) from rfl, K.1]
  rfl
def cl20 (x : Int32) : Int32 := if 0 ≤ x then (if x ≤ 20 then x else 20) else 0
def vStr (M : px_M) (pa : Nat → Nat) (np : Nat) : Int32 := cl20 (sY M pa np 3 / 100)
theorem cl20_r (x : Int32) : ∃ k : Nat, k ≤ 20 ∧ cl20 x = nI k := by
  unfold cl20
  by_cases h1 : 0 ≤ x
  · by_cases h2 : x ≤ 20
    · rw [if_pos h1, if_pos h2]
      exact nI_of2 (M := 20) (by decide) (Int32.not_lt.mpr h1) h2
    · rw [if_pos h1, if_neg h2]; exact ⟨20, by decide, by decide⟩
  · rw [if_neg h1]; exact ⟨0, by decide, by decide⟩
theorem c_strength (h : SailI sh M R np nf pa fp) : f_X8_strength sh M R = some (vStr M pa np) := by
  unfold f_X8_strength
  rw [c_pushY h, bd1_e, e_min, bd1_e, e_max, bd1_e]
  unfold vStr cl20
  congr 1
  generalize sY M pa np 3 / 100 = x
  by_cases h1 : 0 ≤ x
  · by_cases h2 : x ≤ 20
    · rw [if_pos h1, if_pos h2]
      by_cases h3 : x < 20
      · rw [if_pos h3]
        by_cases h4 : 0 < x
        · rw [if_pos h4]
        · rw [if_neg h4]; exact Int32.le_antisymm h1 (Int32.not_lt.mp h4)
      · rw [if_neg h3, if_pos (by decide)]; exact Int32.le_antisymm (Int32.not_lt.mp h3) h2
    · rw [if_pos h1, if_neg h2, if_neg (fun q => h2 (Int32.le_of_lt q)), if_pos (by decide)]
  · rw [if_neg h1, if_pos (Int32.lt_trans (Int32.not_le.mp h1) (by decide)), if_neg (fun q => h1 (Int32.le_of_lt q))]
theorem m_strength (h : SailI sh M R np nf pa fp) (hM : sm_ sh 2 M M') : f_X12_strength M' = some (vStr M pa np) := by
  unfold f_X12_strength f_X12_strength_29
  rw [m_sumY h hM, bd1_e, nm_u]
  unfold vStr cl20
  split
  · split <;> rfl
  · rfl
/-! push and turn -/
def px_t (M : px_M) (k : Int32) : px_M := px_u (px_u M 73 0 0) 73 0 k
theorem px_t_in (M : px_M) (k : Int32) : px_t M k 73 0 = k := px_u_in _ _ _ _
theorem px_t_kp {ks : List Nat} (M : px_M) (k : Int32) : kp sh ks M (px_t M k) := (kp.rf.u 0 rfl List.mem_cons_self).u 0 rfl List.mem_cons_self
theorem px_0_kp {ks : List Nat} (M : px_M) (k : Int32) : kp sh ks M (px_u M 73 0 k) := kp.rf.u 0 rfl List.mem_cons_self
theorem e_bt {M : px_M} {k : Int32} (hk : ¬ k = 0) : f_X12_bad (px_u M 73 0 0) 1 k = some (1, px_t M k) := e_bad_t (px_u_in _ _ _ _) hk
theorem e_bf {M : px_M} (k : Int32) : f_X12_bad (px_u M 73 0 0) 0 k = some (0, px_u M 73 0 0) := e_bad_f (px_u_in _ _ _ _) k
theorem i01 {x : Int32} (h : 0 ≤ x ∧ x ≤ 1) : x = 0 ∨ x = 1 := by
  obtain ⟨j, hj, rfl⟩ := nI_of2 (M := 1) (n := 1) (by decide) (Int32.not_lt.mpr h.1) h.2
  obtain rfl | rfl : j = 0 ∨ j = 1 := by omega
  · exact Or.inl rfl
  · exact Or.inr rfl
theorem p_push (hI : Isail sh M R) (p1 p2 : Int32) :
    (∃ r, f_X11_push sh M R p1 p2 = some (.inl r) ∧ f_X12_push M p1 p2 = some (r, px_u M 73 0 0)) ∨ (f_X11_push sh M R p1 p2 = some (.inr 0) ∧ f_X12_push M p1 p2 = some (0, px_t M 1)) := by
  obtain ⟨np, nf, pa, fp, h⟩ := hI
  have h0 : sm_ sh 2 M (px_u M 73 0 0) := sm_u0 (by decide) 0
  unfold f_X11_push f_X12_push f_X11_push_20 f_X11_push_21 f_X12_push_26 f_X12_push_31
  simp only [e_isSlant, e_within, e_in, bd1_e, nm_u, bI_0]
  by_cases h1 : -8 ≤ p1 ∧ p1 ≤ 8
  · by_cases h2 : 0 ≤ p2 ∧ p2 ≤ 1
    · left
      unfold f_X11_push_24 f_X11_push_47 f_X8_pushX
      simp only [h1, h2, not_true_eq_false, if_false, and_self, e_bf, bd1_e, if_true, c_pushY h, m_sumY h h0, m_sumX h h0, show f_X8_pushXFrom sh M R 0 p1 = _ from c_pushXFrom h (Nat.zero_le _) p1]
      rcases i01 h2 with rfl | rfl
      · exact ⟨_, rfl, rfl⟩
      · exact ⟨_, rfl, rfl⟩
    · right
      simp [h1, h2, e_bt, bd1_e]
  · right
    simp [h1, e_bt, bd1_e]
theorem p_turn (hI : Isail sh M R) (p1 p2 : Int32) :
    (∃ r, f_X11_turn sh M R p1 p2 = some (.inl r) ∧ f_X12_turn M p1 p2 = some (r, px_u M 73 0 0)) ∨ (f_X11_turn sh M R p1 p2 = some (.inr 0) ∧ f_X12_turn M p1 p2 = some (0, px_t M 1)) := by
  obtain ⟨np, nf, pa, fp, h⟩ := hI
  have h0 : sm_ sh 2 M (px_u M 73 0 0) := sm_u0 (by decide) 0
  unfold f_X11_turn f_X12_turn f_X11_turn_20 f_X11_turn_21 f_X12_turn_26 f_X12_turn_31
  simp only [e_isSlant, e_within, e_in, bd1_e, nm_u, bI_0]
  by_cases h1 : -8 ≤ p1 ∧ p1 ≤ 8
  · by_cases h2 : 0 ≤ p2 ∧ p2 ≤ 1
    · left
      unfold f_X11_turn_24
      simp only [h1, h2, not_true_eq_false, if_false, and_self, e_bf, bd1_e, if_true, c_turnBy h, m_turned h h0]
      exact ⟨_, rfl, rfl⟩
    · right
      simp [h1, h2, e_bt, bd1_e]
  · right
    simp [h1, e_bt, bd1_e]
end SAIL
