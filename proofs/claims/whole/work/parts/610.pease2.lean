/-! the net's answers: hangs, slack, taut, ease, with all that they leave -/
section PE2
variable {sh : px_Sh} {M : px_M} {L : px_L} {R : px_R} {nk nt : Nat}
/-- what stays when the net was asked -/
def NetO (sh : px_Sh) (M : px_M) (L : px_L) (R : px_R) (nk nt : Nat) (M2 : px_M) (L2 : px_L) (R1 : px_R) : Prop :=
  (∀ c j, ¬ (c = 40 ∧ 9 ≤ j) → c ≠ 212 → ¬ (c = 73 ∧ j = 0) → M2 c j = M c j) ∧ (∀ a j, ¬ (49 ≤ a ∧ a ≤ 60) → a ≠ 40 → ¬ (a = 73 ∧ (j = 71 ∨ j = 72)) → ¬ (200 ≤ a ∧ a ≤ 214) → a ≠ 219 → L2 a j = L a j) ∧ (∀ a j, a ≠ 48 → R1 a j = R a j) ∧ (∃ bb', PerR sh R1 bb') ∧ NetS M2 nk nt ∧ NetC M2 L2 nk nt
theorem OuR.e {Mx M' : px_M} {Lx L' : px_L} (h : OuR Mx Lx M' L') : OuE Mx Lx M' L' := ⟨h.1, fun a j q _ => h.2 a j q⟩
theorem net_out (hN : NetS M nk nt) {M1 M2 : px_M} {L1 Lx L2 : px_L} {R1 : px_R} {bb1 : Nat → Nat} (g2 : PerR sh R1 bb1) (g3 : ∀ c j, ¬ (c = 40 ∧ ((9 ≤ j ∧ j ≤ 12) ∨ j = 16 ∨ j = 17)) → M1 c j = M c j) (g4 : ∀ a j, ¬ (49 ≤ a ∧ a ≤ 60) → ¬ (a = 40 ∧ (j = 13 ∨ j = 14 ∨ j = 18)) → L1 a j = L a j) (g5 : ∀ a j, a ≠ 48 → R1 a j = R a j) (g7 : SeA M nk nt M1 L1) (hL : ∀ a j, a ≠ 219 → Lx a j = L1 a j) (k : OuE (px_u M1 73 0 0) Lx M2 L2) : M2 73 0 = 0 ∧ NetO sh M L R nk nt M2 L2 R1 ∧ L2 219 0 = Lx 219 0 := by
  have hM2 : ∀ c j, c ≠ 212 → ¬ (c = 73 ∧ j = 0) → M2 c j = M1 c j := fun c j q1 q2 => by rw [k.1 c j q1, pu_n (by omega)]
  have hfr : ∀ c j, ¬ (c = 40 ∧ 9 ≤ j) → c ≠ 212 → ¬ (c = 73 ∧ j = 0) → M2 c j = M c j := fun c j q1 q2 q3 => by rw [hM2 c j q2 q3, g3 c j (by omega)]
  refine ⟨by rw [k.1 73 0 (by omega), px_u_in], ⟨hfr, fun a j q1 q2 q3 q4 q5 => ?_, g5, ⟨bb1, g2⟩, hN.w2 hfr, fun _ => ?_⟩, k.2 219 0 (by omega) (by omega)⟩
  · rw [k.2 a j (by omega) (by omega), hL a j q5, g4 a j q1 (by omega)]
  · exact SeA_w g7 (fun c j q1 q2 => hfr c j (by omega) (by omega) (by omega)) (hM2 40 10 (by omega) (by omega)) (hM2 40 11 (by omega) (by omega)) (hM2 40 12 (by omega) (by omega)) ((k.2 40 13 (by omega) (by omega)).trans (hL 40 13 (by omega))) ((k.2 40 14 (by omega) (by omega)).trans (hL 40 14 (by omega)))
theorem net_q (hN : NetS M nk nt) {M1 M2 : px_M} {L1 L2 : px_L} {R1 : px_R} {bb1 : Nat → Nat} {w : Int64} (g2 : PerR sh R1 bb1) (g3 : ∀ c j, ¬ (c = 40 ∧ ((9 ≤ j ∧ j ≤ 12) ∨ j = 16 ∨ j = 17)) → M1 c j = M c j) (g4 : ∀ a j, ¬ (49 ≤ a ∧ a ≤ 60) → ¬ (a = 40 ∧ (j = 13 ∨ j = 14 ∨ j = 18)) → L1 a j = L a j) (g5 : ∀ a j, a ≠ 48 → R1 a j = R a j) (g7 : SeA M nk nt M1 L1) (k : OuE (px_u M1 73 0 0) (px_u L1 219 0 w) M2 L2) : M2 73 0 = 0 ∧ NetO sh M L R nk nt M2 L2 R1 ∧ L2 219 0 = w := by
  obtain ⟨a1, a2, a3⟩ := net_out hN g2 g3 g4 g5 g7 (fun a j q => pu_n (by omega)) k
  exact ⟨a1, a2, a3.trans (px_u_in _ _ _ _)⟩
theorem hang_eq {M1 : px_M} {L1 L2 : px_L} {z : Int32} (g7 : SeA M nk nt M1 L1) (k4 : FE (nA M nk nt none) nt (2 ^ nt) z L2) : M1 40 10 = z := by
  rcases g7.1 with ⟨a1, a2⟩ | ⟨a1, ⟨s, a2, a3⟩, -⟩
  · rcases k4 with ⟨b1, -⟩ | ⟨b1, ⟨s, b2, b3⟩, -⟩
    · rw [a1, b1]
    · exact absurd b3 (a2 s b2)
  · rcases k4 with ⟨b1, b2⟩ | ⟨b1, -⟩
    · exact absurd a3 (b2 s a2)
    · rw [a1, b1]
theorem p_hangs2 (hS : SR sh R) (hN : NetS M nk nt) {bb : Nat → Nat} (hP : PerR sh R bb) (hC : NetC M L nk nt) :
    ∃ z M1 L1 R1 M2 L2, f_X11_hangs sh M L R = some (z, M1, L1, R1) ∧ f_X12_hangs sh M1 L1 R1 = some (z, M2, L2) ∧ M2 73 0 = 0 ∧ NetO sh M L R nk nt M2 L2 R1 ∧ L2 219 0 = L1 219 0 := by
  obtain ⟨M1, L1, R1, bb1, g1, g2, g3, g4, g5, g6, g7⟩ := c_settle hS hN hP hC
  have hE : eqM M (px_u M1 73 0 0) := fun c j q => by rw [pu_n (by omega)]; exact g3 c j (by omega)
  obtain ⟨z, M2, L2, k1, k2, k3, k4⟩ := m_ease (L := L1) (SR_48 hS g5) hN hE
  have hz : M1 40 10 = z := hang_eq g7 k4
  refine ⟨z, M1, L1, R1, M2, L2, ?_, ?_, net_out hN g2 g3 g4 g5 g7 (fun _ _ _ => rfl) k3⟩
  · unfold f_X11_hangs
    rw [g1, bd1_e]
    dsimp only
    rw [hz, ok_t k2]
  · unfold f_X12_hangs
    rw [nm_u, k1, bd1_e]
    dsimp only
    rw [ok_t k2]
theorem p_slack (hS : SR sh R) (hN : NetS M nk nt) {bb : Nat → Nat} (hP : PerR sh R bb) (hC : NetC M L nk nt) (p1 : Int32) (w : Int64) :
    (∃ z M1 L1 R1 M2 L2, f_X11_slack sh M L R p1 = some (.inl (z, M1, L1, R1)) ∧ SR sh R1 ∧ f_X12_slack sh M1 (px_u L1 219 0 w) R1 p1 = some (z, M2, L2) ∧ M2 73 0 = 0 ∧ NetO sh M L R nk nt M2 L2 R1 ∧ L2 219 0 = w) ∨ (f_X11_slack sh M L R p1 = some (.inr 2) ∧ f_X12_slack sh M L R p1 = some (0, px_t M 1, L)) := by
  have hnt := hN.1.2
  have h48 : M 40 8 = nI nt := hN.2.1.2.2.1
  have h58 : M 73 58 = nI nt := hN.2.1.2.2.2
  rcases rng p1 (k := nt) (by omega) with ⟨t, ht, rfl, w1, w2⟩ | ⟨-, w1, w2⟩
  · left
    obtain ⟨M1, L1, R1, bb1, g1, g2, g3, g4, g5, g6, g7⟩ := c_settle hS hN hP hC
    have hE : eqM M (px_u M1 73 0 0) := fun c j q => by rw [pu_n (by omega)]; exact g3 c j (by omega)
    have e58 : (px_u M1 73 0 0) 73 58 = nI nt := (hE 73 58 (by omega)).trans h58
    obtain ⟨z, M2, L2, k1, k2, k3⟩ := m_corner (L := px_u L1 219 0 w) (SR_48 hS g5) hN ht (p2 := 1) (Or.inr rfl) hE
    have hz : zb z = true := by rcases k3 with ⟨rfl, -⟩ | ⟨rfl, -⟩ <;> rfl
    have hb := g7.2.2 t ht
    have hw : (((M1 40 11) >>> (nI t &&& 31)) &&& 1 = 1) ↔ z = 1 := by
      rw [hb]
      rcases k3 with ⟨rfl, s, x, d, q1, q2, q3⟩ | ⟨rfl, q⟩
      · exact ⟨fun _ => rfl, fun _ => ⟨s, x, d, q1, q2, fun z => absurd (q3.mp z) (by decide)⟩⟩
      · exact ⟨fun ⟨s, x, d, q1, q2, q3⟩ => absurd ⟨s, x, d, q1, q2, ⟨fun z => absurd z q3, fun z => absurd z (by decide)⟩⟩ q, fun z => absurd z (by decide)⟩
    refine ⟨z, M1, L1, R1, M2, L2, ?_, SR_48 hS g5, ?_, net_q hN g2 g3 g4 g5 g7 k2.e⟩
    · unfold f_X11_slack f_X4_hasString f_X11_slack_11 f_X11_slack_38
      rw [h48, w1, bd1_e, ok_t zb1, bd1_e, if_neg (by decide), g1, bd1_e]
      dsimp only
      rcases k3 with ⟨rfl, -⟩ | ⟨rfl, -⟩
      · rw [if_pos (hw.mpr rfl)]; rfl
      · rw [if_neg (fun q => absurd (hw.mp q) (by decide))]; rfl
    · unfold f_X12_slack f_X12_slack_25
      rw [nm_u, e58, w2, bd1_e, if_neg (by decide), e_bf, bd1_e]
      dsimp only
      rw [if_pos rfl, k1, bd1_e]
      dsimp only
      rw [ok_t hz]
  · right
    have e58 : (px_u M 73 0 0) 73 58 = nI nt := by rw [pu_n (by omega)]; exact h58
    unfold f_X11_slack f_X4_hasString f_X12_slack f_X12_slack_25
    rw [h48, w1, bd1_e, ok_t zb0, bd1_e, if_pos rfl, nm_u, e58, w2, bd1_e, if_pos rfl, e_bt (by decide), bd1_e]
    exact ⟨rfl, rfl⟩
theorem p_taut (hS : SR sh R) (hN : NetS M nk nt) {bb : Nat → Nat} (hP : PerR sh R bb) (hC : NetC M L nk nt) (p1 : Int32) (w : Int64) :
    (∃ z M1 L1 R1 M2 L2, f_X11_taut sh M L R p1 = some (.inl (z, M1, L1, R1)) ∧ SR sh R1 ∧ f_X12_taut sh M1 (px_u L1 219 0 w) R1 p1 = some (z, M2, L2) ∧ M2 73 0 = 0 ∧ NetO sh M L R nk nt M2 L2 R1 ∧ L2 219 0 = w) ∨ (f_X11_taut sh M L R p1 = some (.inr 2) ∧ f_X12_taut sh M L R p1 = some (0, px_t M 1, L)) := by
  have hnt := hN.1.2
  have h48 : M 40 8 = nI nt := hN.2.1.2.2.1
  have h58 : M 73 58 = nI nt := hN.2.1.2.2.2
  rcases rng p1 (k := nt) (by omega) with ⟨t, ht, rfl, w1, w2⟩ | ⟨-, w1, w2⟩
  · left
    obtain ⟨M1, L1, R1, bb1, g1, g2, g3, g4, g5, g6, g7⟩ := c_settle hS hN hP hC
    have hE : eqM M (px_u M1 73 0 0) := fun c j q => by rw [pu_n (by omega)]; exact g3 c j (by omega)
    have e58 : (px_u M1 73 0 0) 73 58 = nI nt := (hE 73 58 (by omega)).trans h58
    have hS1 := SR_48 hS g5
    obtain ⟨z, M2, L2, k1, k2, k3⟩ := m_corner (L := px_u L1 219 0 w) hS1 hN ht (p2 := 0) (Or.inl rfl) hE
    have hb := g7.2.1 t ht
    have hc1 : (((M1 40 12) >>> (nI t &&& 31)) &&& 1 = 1) → f_X11_taut sh M L R (nI t) = some (.inl (1, M1, L1, R1)) := fun q => by
      unfold f_X11_taut f_X4_hasString f_X11_taut_11 f_X11_taut_38
      rw [h48, w1, bd1_e, ok_t zb1, bd1_e, if_neg (by decide), g1, bd1_e]
      dsimp only
      rw [if_pos q]; rfl
    have hc0 : ¬ (((M1 40 12) >>> (nI t &&& 31)) &&& 1 = 1) → f_X11_taut sh M L R (nI t) = some (.inl (0, M1, L1, R1)) := fun q => by
      unfold f_X11_taut f_X4_hasString f_X11_taut_11 f_X11_taut_38
      rw [h48, w1, bd1_e, ok_t zb1, bd1_e, if_neg (by decide), g1, bd1_e]
      dsimp only
      rw [if_neg q]; rfl
    have hm : f_X12_taut sh M1 (px_u L1 219 0 w) R1 (nI t) = (if z = 0 then
      bd1 (f_X12_findEase sh M2 L2 R1) fun e_46 =>
      if e_46.1 = 0 then
        some (0, e_46.2.1, e_46.2.2)
      else
        bdS (lpf (fun a : Int32 × px_M × px_L => f_X12_taut_56 sh a.2.1 a.2.2 R1 (nI t) a.1) (0, e_46.2.1, e_46.2.2)) (fun t_56_0 =>
        some (1, t_56_0.1, t_56_0.2)) (fun u_56_0 =>
        some (0, u_56_0.1, u_56_0.2))
      else some (1, M2, L2)) := by
      unfold f_X12_taut f_X12_taut_25
      rw [nm_u, e58, w2, bd1_e, if_neg (by decide), e_bf, bd1_e]
      dsimp only
      rw [if_pos rfl, k1, bd1_e]
    rcases k3 with ⟨rfl, s, x, d, q1, q2, q3⟩ | ⟨rfl, q⟩
    · refine ⟨1, M1, L1, R1, M2, L2, hc1 (hb.mpr (Or.inl ⟨s, x, d, q1, q2, q3.mpr rfl⟩)), hS1, ?_, net_q hN g2 g3 g4 g5 g7 k2.e⟩
      rw [hm, if_neg (by decide)]
    · have hno : ¬ ∃ s x d, s < 2 ^ nt ∧ BF (nA M nk nt none) s x d ∧ 0 < x t := fun ⟨s, x, d, q1, q2, q3⟩ => q ⟨s, x, d, q1, q2, ⟨fun _ => rfl, fun _ => q3⟩⟩
      obtain ⟨z', M3, L3, l1, l2, l3, l4⟩ := m_ease (L := L2) hS1 hN (hE.fr k2.1)
      have hz : M1 40 10 = z' := hang_eq g7 l4
      rw [if_pos rfl, l1, bd1_e] at hm
      dsimp only at hm
      by_cases e0 : z' = 0
      · rw [if_pos e0] at hm
        refine ⟨0, M1, L1, R1, M3, L3, hc0 (fun w => ?_), hS1, hm, net_q hN g2 g3 g4 g5 g7 (k2.e.tr l3)⟩
        rcases hb.mp w with w | w
        · exact hno w
        · rw [hz, e0] at w
          exact absurd w.1 (by decide)
      · have e1 : z' = 1 := by rcases l4 with ⟨b1, -⟩ | ⟨b1, -⟩; exact absurd b1 e0; exact b1
        rw [if_neg e0] at hm
        have hE3 : eqM M M3 := (hE.fr k2.1).fr l3.1
        obtain ⟨M4, L4, r1, r2⟩ := m_grows (M := M) hS1 hN ht (2 ^ nt) 0 M3 L3 (by omega) hE3 (fun ⟨s, s1, _⟩ => by omega)
        have hO := (k2.e.tr l3).tr r1.e
        rcases r2 with ⟨r2, r3⟩ | ⟨r2, r3⟩
        · refine ⟨1, M1, L1, R1, M4, L4, hc1 (hb.mpr (Or.inr ⟨hz.trans e1, r3⟩)), hS1, ?_, net_q hN g2 g3 g4 g5 g7 hO⟩
          rw [hm, show ((0 : Int32), M3, L3) = (nI 0, M3, L3) from rfl, bdS_l r2]
        · refine ⟨0, M1, L1, R1, M4, L4, hc0 (fun w => ?_), hS1, ?_, net_q hN g2 g3 g4 g5 g7 hO⟩
          · rcases hb.mp w with w | w
            · exact hno w
            · exact r3 w.2
          · rw [hm, show ((0 : Int32), M3, L3) = (nI 0, M3, L3) from rfl, bdS_r r2]
  · right
    have e58 : (px_u M 73 0 0) 73 58 = nI nt := by rw [pu_n (by omega)]; exact h58
    unfold f_X11_taut f_X4_hasString f_X12_taut f_X12_taut_25
    rw [h48, w1, bd1_e, ok_t zb0, bd1_e, if_pos rfl, nm_u, e58, w2, bd1_e, if_pos rfl, e_bt (by decide), bd1_e]
    exact ⟨rfl, rfl⟩
theorem p_ease (hS : SR sh R) (hN : NetS M nk nt) {bb : Nat → Nat} (hP : PerR sh R bb) (hC : NetC M L nk nt) (p1 : Int32) (w : Int64) :
    (∃ z M1 L1 R1 M2 L2, f_X11_ease sh M L R p1 = some (.inl (z, M1, L1, R1)) ∧ SR sh R1 ∧ f_X12_ease sh M1 (px_u L1 219 0 w) R1 p1 = some (z, M2, L2) ∧ M2 73 0 = 0 ∧ NetO sh M L R nk nt M2 L2 R1 ∧ L2 219 0 = w) ∨ (f_X11_ease sh M L R p1 = some (.inr 0) ∧ f_X12_ease sh M L R p1 = some (0, px_t M 1, L)) := by
  by_cases hp : 0 ≤ p1 ∧ p1 ≤ 1
  · left
    obtain ⟨M1, L1, R1, bb1, g1, g2, g3, g4, g5, g6, g7⟩ := c_settle hS hN hP hC
    have hE : eqM M (px_u M1 73 0 0) := fun c j q => by rw [pu_n (by omega)]; exact g3 c j (by omega)
    obtain ⟨z, M2, L2, k1, k2, k3, k4⟩ := m_ease (L := px_u L1 219 0 w) (SR_48 hS g5) hN hE
    have hz : M1 40 10 = z := hang_eq g7 k4
    subst hz
    have hc : f_X11_ease sh M L R p1 = (if M1 40 10 = 0 then some (.inl (-1, M1, L1, R1)) else if p1 = 0 then some (.inl (L1 40 13, M1, L1, R1)) else some (.inl (L1 40 14, M1, L1, R1))) := by
      unfold f_X11_ease f_X11_ease_9 f_X11_ease_51
      rw [e_within, bd1_e, bI_t hp, if_neg (by decide), g1, bd1_e]
      dsimp only
      by_cases e0 : M1 40 10 = 0
      · rw [if_pos e0, if_pos e0]; rfl
      · rw [if_neg e0, if_neg e0]
        by_cases e1 : p1 = 0
        · rw [if_pos e1, if_pos e1]; rfl
        · rw [if_neg e1, if_neg e1]; rfl
    have hm : f_X12_ease sh M1 (px_u L1 219 0 w) R1 p1 = (if M1 40 10 = 0 then some (-1, M2, L2) else if p1 = 0 then some (L2 73 71, M2, L2) else some (L2 73 72, M2, L2)) := by
      unfold f_X12_ease f_X12_ease_20 f_X12_ease_55
      rw [nm_u, e_in, bd1_e, bI_t hp, if_neg (by decide), e_bf, bd1_e]
      dsimp only
      rw [if_pos rfl, k1, bd1_e]
    have hO := net_q hN g2 g3 g4 g5 g7 k3
    by_cases e0 : M1 40 10 = 0
    · rw [if_pos e0] at hc hm
      exact ⟨-1, M1, L1, R1, M2, L2, hc, SR_48 hS g5, hm, hO⟩
    · rw [if_neg e0] at hc hm
      rcases g7.1 with ⟨a1, -⟩ | ⟨a1, -, ea, eb, a2, a3, a4, a5, a6, a7⟩
      · exact absurd a1 e0
      · rcases k4 with ⟨b1, -⟩ | ⟨b1, -, fa, fb, b2, b3, b4, b5, b6, b7⟩
        · exact absurd b1 e0
        · obtain ⟨u1, u2⟩ := ease_uq a4 b4 a5 b5 a6 a7 b6 b7
          by_cases e1 : p1 = 0
          · rw [if_pos e1] at hc hm
            refine ⟨L1 40 13, M1, L1, R1, M2, L2, hc, SR_48 hS g5, ?_, hO⟩
            rw [hm, a2, b2, u1]
          · rw [if_neg e1] at hc hm
            refine ⟨L1 40 14, M1, L1, R1, M2, L2, hc, SR_48 hS g5, ?_, hO⟩
            rw [hm, a3, b3, u2]
  · right
    unfold f_X11_ease f_X12_ease f_X12_ease_20
    rw [e_within, bd1_e, bI_f hp, if_pos rfl, nm_u, e_in, bd1_e, bI_f hp, if_pos rfl, e_bt (by decide), bd1_e]
    exact ⟨rfl, rfl⟩
end PE2
