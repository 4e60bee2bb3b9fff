/-! a string that can carry more -/
def Gr (M : px_M) (nk nt t b : Nat) : Prop := ∃ s, s < b ∧ ¬ s.testBit t = true ∧ Bal (nA M nk nt (some t)) (Sx s (cl s).length)
section GR
variable {sh : px_Sh} {M : px_M} {L : px_L} {R : px_R} {nk nt : Nat}
/-- what balances leaves -/
def OuB (M : px_M) (L : px_L) (R : px_R) (Mx : px_M) (Lx : px_L) (Rx : px_R) : Prop :=
  (∀ c j, ¬ (c = 40 ∧ (j = 16 ∨ j = 17)) → Mx c j = M c j) ∧ (∀ a j, ¬ (49 ≤ a ∧ a ≤ 60) → ¬ (a = 40 ∧ j = 18) → Lx a j = L a j) ∧ ∀ a j, a ≠ 48 → Rx a j = R a j
theorem OuB.tr {M1 M2 : px_M} {L1 L2 : px_L} {R1 R2 : px_R} (h : OuB M L R M1 L1 R1) (h' : OuB M1 L1 R1 M2 L2 R2) : OuB M L R M2 L2 R2 :=
  ⟨fun c j q => (h'.1 c j q).trans (h.1 c j q), fun a j q1 q2 => (h'.2.1 a j q1 q2).trans (h.2.1 a j q1 q2), fun a j q => (h'.2.2 a j q).trans (h.2.2 a j q)⟩
theorem OuB.ou {M1 : px_M} {L1 : px_L} {R1 : px_R} (h : OuB M L R M1 L1 R1) : OuN M L R M1 L1 R1 :=
  ⟨fun c j q => h.1 c j (by omega), fun a j q1 q2 => h.2.1 a j q1 (by omega), h.2.2⟩
theorem c_grows (hS : SR sh R) (hN : NetS M nk nt) {t : Nat} (ht : t < nt) : ∀ (k b : Nat) (Mx : px_M) (Lx : px_L) (Rx : px_R) (bb : Nat → Nat), b + k = 2 ^ nt → PerR sh Rx bb → OuB M L R Mx Lx Rx → ¬ Gr M nk nt t b → ∃ M' L' R' bb', PerR sh R' bb' ∧ OuB M L R M' L' R' ∧ ((lpf (fun a : Int32 × px_M × px_L × px_R => f_X4_canGrow_2 sh a.2.1 a.2.2.1 a.2.2.2 (nI t) a.1) (nI b, Mx, Lx, Rx) = some (.inl (M', L', R')) ∧ Gr M nk nt t (2 ^ nt)) ∨ (lpf (fun a : Int32 × px_M × px_L × px_R => f_X4_canGrow_2 sh a.2.1 a.2.2.1 a.2.2.2 (nI t) a.1) (nI b, Mx, Lx, Rx) = some (.inr (M', L', R')) ∧ ¬ Gr M nk nt t (2 ^ nt)))
  | 0, b, Mx, Lx, Rx, bb, hk, hP, hO, hI => by
    obtain rfl : b = 2 ^ nt := by omega
    refine ⟨Mx, Lx, Rx, bb, hP, hO, Or.inr ⟨lpf_end ?_, hI⟩⟩
    show f_X4_canGrow_2 sh Mx Lx Rx (nI t) (nI (2 ^ nt)) = _
    unfold f_X4_canGrow_2
    rw [hO.1 40 8 (by omega), hN.2.1.2.2.1, pow_s nt hN.1.2, if_pos (Int32.le_refl _)]
  | k + 1, b, Mx, Lx, Rx, bb, hk, hP, hO, hI => by
    have hnt := hN.1.2
    have h26 : 2 ^ nt ≤ 2 ^ 6 := Nat.pow_le_pow_right (by decide) hnt
    have hb : b < 2 ^ nt := by omega
    have hA : nA Mx nk nt (some t) = nA M nk nt (some t) := nA_w fun c j h1 h2 => hO.1 c j (by omega)
    have h8 : Mx 40 8 = nI nt := (hO.1 40 8 (by omega)).trans hN.2.1.2.2.1
    have hlt : ¬ nI (2 ^ nt) ≤ nI b := nI_ge hb (by omega)
    have nx : ∀ M', ¬ Gr M' nk nt t b → (¬ b.testBit t = true → ¬ Bal (nA M' nk nt (some t)) (Sx b (cl b).length)) → ¬ Gr M' nk nt t (b + 1) := by
      rintro M' q1 q2 ⟨s, s1, s2, s3⟩
      by_cases e : s = b
      · subst e; exact q2 s2 s3
      · exact q1 ⟨s, by omega, s2, s3⟩
    by_cases hbt : b.testBit t = true
    · have hg : f_X4_canGrow_2 sh Mx Lx Rx (nI t) (nI b) = some (.inl (nI (b + 1), Mx, Lx, Rx)) := by
        unfold f_X4_canGrow_2 f_X4_canGrow_31
        rw [h8, pow_s nt hnt, if_neg hlt, if_neg (fun z => (b32_z _ (by omega)).mp z ((bit_iff (by omega) (by omega)).mpr hbt)), nI_1]
      rw [lpf_go (body := fun a : Int32 × px_M × px_L × px_R => f_X4_canGrow_2 sh a.2.1 a.2.2.1 a.2.2.2 (nI t) a.1) (a := (nI b, Mx, Lx, Rx)) (a' := (nI (b + 1), Mx, Lx, Rx)) hg]
      exact c_grows hS hN ht k (b + 1) Mx Lx Rx bb (by omega) hP hO (nx M hI fun q => absurd hbt q)
    · obtain ⟨z, M1, L1, R1, bb1, g1, g2, g3, g4, g5, -, g7⟩ := c_balances (M := Mx) (nk := nk) (dr := some t) (SR_48 hS hO.2.2) (hN.w fun c j q => hO.1 c j (by omega)) hP hb (p2 := nI t) (Or.inr ⟨t, ht, rfl, rfl⟩) Lx
      have hO1 : OuB M L R M1 L1 R1 := hO.tr ⟨g3, fun a j q1 q2 => g4 a j (by omega) q2, g5⟩
      rw [hA] at g7
      have hz0 : (nI b >>> (nI t &&& 31)) &&& 1 = 0 := (b32_z _ (by omega)).mpr (fun z => hbt ((bit_iff (by omega) (by omega)).mp z))
      rcases g7 with ⟨rfl, g7⟩ | ⟨rfl, g7, -⟩
      · have hg : f_X4_canGrow_2 sh Mx Lx Rx (nI t) (nI b) = some (.inl (nI (b + 1), M1, L1, R1)) := by
          unfold f_X4_canGrow_2 f_X4_canGrow_31
          rw [h8, pow_s nt hnt, if_neg hlt, if_pos hz0, g1, bd1_e]
          dsimp only
          rw [if_pos rfl, nI_1]
        rw [lpf_go (body := fun a : Int32 × px_M × px_L × px_R => f_X4_canGrow_2 sh a.2.1 a.2.2.1 a.2.2.2 (nI t) a.1) (a := (nI b, Mx, Lx, Rx)) (a' := (nI (b + 1), M1, L1, R1)) hg]
        exact c_grows hS hN ht k (b + 1) M1 L1 R1 bb1 (by omega) g2 hO1 (nx M hI fun _ => g7)
      · refine ⟨M1, L1, R1, bb1, g2, hO1, Or.inl ⟨lpf_end ?_, b, hb, hbt, g7⟩⟩
        show f_X4_canGrow_2 sh Mx Lx Rx (nI t) (nI b) = _
        unfold f_X4_canGrow_2 f_X4_canGrow_31
        rw [h8, pow_s nt hnt, if_neg hlt, if_pos hz0, g1, bd1_e]
        dsimp only
        rw [if_neg (by decide)]
theorem c_grow (hS : SR sh R) (hN : NetS M nk nt) {bb : Nat → Nat} (hP : PerR sh R bb) {t : Nat} (ht : t < nt) : ∃ z M' L' R' bb', f_X4_canGrow sh M L R (nI t) = some (z, M', L', R') ∧ PerR sh R' bb' ∧ OuB M L R M' L' R' ∧ ((z = 1 ∧ Gr M nk nt t (2 ^ nt)) ∨ (z = 0 ∧ ¬ Gr M nk nt t (2 ^ nt))) := by
  obtain ⟨M', L', R', bb', g1, g2, g3⟩ := c_grows (L := L) hS hN ht (2 ^ nt) 0 M L R bb (by omega) hP ⟨fun _ _ _ => rfl, fun _ _ _ _ => rfl, fun _ _ _ => rfl⟩ (fun ⟨s, q, _⟩ => by omega)
  unfold f_X4_canGrow
  rw [show (0 : Int32) = nI 0 from rfl]
  rcases g3 with ⟨g3, g4⟩ | ⟨g3, g4⟩
  · exact ⟨1, M', L', R', bb', by rw [bdS_l g3], g1, g2, Or.inl ⟨rfl, g4⟩⟩
  · exact ⟨0, M', L', R', bb', by rw [bdS_r g3]; rfl, g1, g2, Or.inr ⟨rfl, g4⟩⟩
theorem Gr_w {M' : px_M} (hM : ∀ c j, 192 ≤ c → c ≤ 198 → M' c j = M c j) {t b : Nat} : Gr M' nk nt t b ↔ Gr M nk nt t b := by
  unfold Gr
  rw [nA_w (nk := nk) (nt := nt) (dr := some t) hM]
/-- the second loop: the strings that can carry more are taut -/
theorem c_tauts (hS : SR sh R) (hN : NetS M nk nt) (h10 : M 40 10 ≠ 0) : ∀ (k b : Nat) (Mx : px_M) (Lx : px_L) (Rx : px_R) (bb : Nat → Nat), b + k = nt → PerR sh Rx bb → OuN M L R Mx Lx Rx → (∀ j, j = 10 ∨ j = 11 → Mx 40 j = M 40 j) → (∀ j, j = 13 ∨ j = 14 → Lx 40 j = L 40 j) → (∀ u, u < nt → (((Mx 40 12 >>> (nI u &&& 31)) &&& 1 = 1) ↔ ((M 40 12 >>> (nI u &&& 31)) &&& 1 = 1) ∨ (u < b ∧ Gr M nk nt u (2 ^ nt)))) → ∃ M' L' R' bb', lpf (fun a : Int32 × px_M × px_L × px_R => f_X4_settle_62 sh a.2.1 a.2.2.1 a.2.2.2 a.1) (nI b, Mx, Lx, Rx) = some (M', L', R') ∧ PerR sh R' bb' ∧ OuN M L R M' L' R' ∧ (∀ j, j = 10 ∨ j = 11 → M' 40 j = M 40 j) ∧ (∀ j, j = 13 ∨ j = 14 → L' 40 j = L 40 j) ∧ ∀ u, u < nt → (((M' 40 12 >>> (nI u &&& 31)) &&& 1 = 1) ↔ ((M 40 12 >>> (nI u &&& 31)) &&& 1 = 1) ∨ Gr M nk nt u (2 ^ nt))
  | 0, b, Mx, Lx, Rx, bb, hk, hP, hO, hj, hl, hI => by
    obtain rfl : b = nt := by omega
    refine ⟨Mx, Lx, Rx, bb, lpf_end ?_, hP, hO, hj, hl, fun u hu => ?_⟩
    · show f_X4_settle_62 sh Mx Lx Rx (nI b) = _
      unfold f_X4_settle_62
      rw [hj 10 (Or.inl rfl), if_neg h10, hO.1 40 8 (by omega), hN.2.1.2.2.1, if_pos (Int32.le_refl _)]
    · rw [hI u hu]
      exact ⟨fun q => q.imp id fun q => q.2, fun q => q.imp id fun q => ⟨hu, q⟩⟩
  | k + 1, b, Mx, Lx, Rx, bb, hk, hP, hO, hj, hl, hI => by
    have hnt := hN.1.2
    have hb : b < nt := by omega
    have h8 : Mx 40 8 = nI nt := (hO.1 40 8 (by omega)).trans hN.2.1.2.2.1
    have st0 : f_X4_settle_62 sh Mx Lx Rx (nI b) = if ((Mx 40 12) >>> (nI b &&& 31)) &&& 1 = 0 then
        bd1 (f_X4_canGrow sh Mx Lx Rx (nI b)) fun e_90 =>
        if e_90.1 = 0 then
          f_X4_settle_108 sh e_90.2.1 e_90.2.2.1 e_90.2.2.2 (nI b)
        else
          nm ((e_90.2.1 40 12) ||| (1 <<< (nI b &&& 31))) fun v_105 =>
          nm (px_u e_90.2.1 40 12 v_105) fun M_105 =>
          f_X4_settle_108 sh M_105 e_90.2.2.1 e_90.2.2.2 (nI b)
      else
        f_X4_settle_108 sh Mx Lx Rx (nI b) := by
      unfold f_X4_settle_62
      rw [hj 10 (Or.inl rfl), if_neg h10, h8, if_neg (nI_ge hb (by omega))]
    by_cases hbt : ((Mx 40 12) >>> (nI b &&& 31)) &&& 1 = 1
    · rw [if_neg (fun z => (b32_z _ (show b < 31 by omega)).mp z hbt)] at st0
      unfold f_X4_settle_108 at st0
      rw [nI_1] at st0
      rw [lpf_go (body := fun a : Int32 × px_M × px_L × px_R => f_X4_settle_62 sh a.2.1 a.2.2.1 a.2.2.2 a.1) (a := (nI b, Mx, Lx, Rx)) (a' := (nI (b + 1), Mx, Lx, Rx)) st0]
      refine c_tauts hS hN h10 k (b + 1) Mx Lx Rx bb (by omega) hP hO hj hl fun u hu => ?_
      rw [hI u hu]
      constructor
      · exact fun q => q.imp id fun q => ⟨by omega, q.2⟩
      · rintro (q | ⟨q1, q2⟩)
        · exact Or.inl q
        · by_cases e : u = b
          · subst e; exact (hI u hu).mp hbt
          · exact Or.inr ⟨by omega, q2⟩
    · rw [if_pos ((b32_z _ (show b < 31 by omega)).mpr hbt)] at st0
      obtain ⟨z, M1, L1, R1, bb1, g1, g2, g3, g4⟩ := c_grow (M := Mx) (L := Lx) (R := Rx) (nk := nk) (SR_48 hS hO.2.2) (hN.w fun c j q => hO.1 c j (by omega)) hP hb
      rw [Gr_w (M := M) fun c j h1 h2 => hO.1 c j (by omega)] at g4
      rw [g1, bd1_e] at st0
      dsimp only at st0
      unfold f_X4_settle_108 at st0
      rw [nI_1] at st0
      have m12 := g3.1 40 12 (by omega)
      rcases g4 with ⟨rfl, g4⟩ | ⟨rfl, g4⟩
      · rw [if_neg (by decide), nm_u, nm_u] at st0
        rw [lpf_go (body := fun a : Int32 × px_M × px_L × px_R => f_X4_settle_62 sh a.2.1 a.2.2.1 a.2.2.2 a.1) (a := (nI b, Mx, Lx, Rx)) st0]
        refine c_tauts hS hN h10 k (b + 1) _ L1 R1 bb1 (by omega) g2 (hO.tr (g3.ou.tr ⟨fun c j q => pu_n (by omega), fun _ _ _ _ => rfl, fun _ _ _ => rfl⟩)) (fun j q => ?_) (fun j q => ?_) fun u hu => ?_
        · rw [pu_n (by omega), g3.1 40 j (by omega)]; exact hj j q
        · rw [g3.2.1 40 j (by omega) (by omega)]; exact hl j q
        · rw [px_u_in, m12, b32_or _ _ (show u < 31 by omega), hI u hu, one_bit b (by omega) u (by omega)]
          constructor
          · rintro ((q | q) | q)
            · exact Or.inl q
            · exact Or.inr ⟨by omega, q.2⟩
            · subst q; exact Or.inr ⟨by omega, g4⟩
          · rintro (q | ⟨q1, q2⟩)
            · exact Or.inl (Or.inl q)
            · by_cases e : b = u
              · exact Or.inr e
              · exact Or.inl (Or.inr ⟨by omega, q2⟩)
      · rw [if_pos rfl] at st0
        rw [lpf_go (body := fun a : Int32 × px_M × px_L × px_R => f_X4_settle_62 sh a.2.1 a.2.2.1 a.2.2.2 a.1) (a := (nI b, Mx, Lx, Rx)) st0]
        refine c_tauts hS hN h10 k (b + 1) M1 L1 R1 bb1 (by omega) g2 (hO.tr g3.ou) (fun j q => ?_) (fun j q => ?_) fun u hu => ?_
        · rw [g3.1 40 j (by omega)]; exact hj j q
        · rw [g3.2.1 40 j (by omega) (by omega)]; exact hl j q
        · rw [m12, hI u hu]
          constructor
          · exact fun q => q.imp id fun q => ⟨by omega, q.2⟩
          · rintro (q | ⟨q1, q2⟩)
            · exact Or.inl q
            · by_cases e : u = b
              · subst e; exact absurd q2 g4
              · exact Or.inr ⟨by omega, q2⟩
end GR
