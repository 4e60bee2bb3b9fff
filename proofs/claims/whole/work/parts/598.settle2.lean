/-! the class's loops over the sets -/
def OuN (M : px_M) (L : px_L) (R : px_R) (Mx : px_M) (Lx : px_L) (Rx : px_R) : Prop :=
  (∀ c j, ¬ (c = 40 ∧ ((10 ≤ j ∧ j ≤ 12) ∨ j = 16 ∨ j = 17)) → Mx c j = M c j) ∧ (∀ a j, ¬ (49 ≤ a ∧ a ≤ 60) → ¬ (a = 40 ∧ (j = 13 ∨ j = 14 ∨ j = 18)) → Lx a j = L a j) ∧ ∀ a j, a ≠ 48 → Rx a j = R a j
section SE
variable {sh : px_Sh} {M : px_M} {L : px_L} {R : px_R} {nk nt : Nat}
theorem OuN.tr {M1 M2 : px_M} {L1 L2 : px_L} {R1 R2 : px_R} (h : OuN M L R M1 L1 R1) (h' : OuN M1 L1 R1 M2 L2 R2) : OuN M L R M2 L2 R2 :=
  ⟨fun c j q => (h'.1 c j q).trans (h.1 c j q), fun a j q1 q2 => (h'.2.1 a j q1 q2).trans (h.2.1 a j q1 q2), fun a j q => (h'.2.2 a j q).trans (h.2.2 a j q)⟩
theorem OuN.rfl' : OuN M L R M L R := ⟨fun _ _ _ => rfl, fun _ _ _ _ => rfl, fun _ _ _ => rfl⟩
/-- one set, tried -/
theorem c_set (hS : SR sh R) (hN : NetS M nk nt) {bb : Nat → Nat} (hP : PerR sh R bb) {b : Nat} (hb : b < 2 ^ nt) (hI : SeI (nA M nk nt none) nt b M L) :
    ∃ M' L' R' bb', f_X4_settle_30 sh M L R (nI b) = some (.inl (nI (b + 1), M', L', R')) ∧ PerR sh R' bb' ∧ OuN M L R M' L' R' ∧ SeI (nA M nk nt none) nt (b + 1) M' L' := by
  have hnt := hN.1.2
  have hb64 : b < 64 := Nat.lt_of_lt_of_le hb (Nat.pow_le_pow_right (by decide) hnt)
  have h8 := hN.2.1.2.2.1
  obtain ⟨z, Mx, L1, R1, bb1, g1, g2, g3, g4, g5, g6, g7⟩ := c_balances (dr := none) hS hN hP hb (p2 := -1) (Or.inl ⟨rfl, rfl⟩) L
  have hO : OuN M L R Mx L1 R1 := ⟨fun c j q => g3 c j (by omega), fun a j q1 q2 => g4 a j (by omega) (by omega), g5⟩
  have m10 := g3 40 10 (by omega)
  have m11 := g3 40 11 (by omega)
  have m12 := g3 40 12 (by omega)
  have l13 := g4 40 13 (by omega) (by omega)
  have l14 := g4 40 14 (by omega) (by omega)
  have hlt : ¬ nI (2 ^ nt) ≤ nI b := nI_ge hb (by
    have : 2 ^ nt ≤ 2 ^ 6 := Nat.pow_le_pow_right (by decide) hnt
    omega)
  unfold f_X4_settle_30 f_X4_settle_54
  rw [h8, pow_s nt hnt, if_neg hlt, g1, bd1_e]
  dsimp only
  rcases g7 with ⟨rfl, g7⟩ | ⟨rfl, g7, lb, m, k1, k2, k3, k4, k5⟩
  · rw [if_pos rfl, nI_1]
    exact ⟨Mx, L1, R1, bb1, rfl, g2, hO, SeI_skip hI g7 m10 m11 m12 l13 l14⟩
  · rw [if_neg (by decide)]
    have hd : ∀ s, (none : Option Nat) = some s → s < nt := fun s e => absurd e (by simp)
    have he : ∃ ea eb : Int, (Mx 40 10 = 0 ∨ (L1 40 13 = lI ea ∧ L1 40 14 = lI eb ∧ eaB ea eb)) := by
      rcases hI.1 with ⟨a1, -⟩ | ⟨a1, ea, eb, a2, a3, a4, -⟩
      · exact ⟨0, 0, Or.inl (by rw [m10, a1])⟩
      · exact ⟨ea, eb, Or.inr ⟨by rw [l13, a2], by rw [l14, a3], a4⟩⟩
    have hT := fun (ea eb : Int) (he : Mx 40 10 = 0 ∨ (L1 40 13 = lI ea ∧ L1 40 14 = lI eb ∧ eaB ea eb)) => c_take (M := Mx) (R := R1) (hsh_of hS) (fun k hk => nA_sp hN hk) (fun x => nA_6 hN hd x) hnt hb k2 (by rw [g3 40 8 (by omega)]; exact h8) g6 k1 k3 k4 k5 he
    obtain ⟨ea, eb, he'⟩ := he
    obtain ⟨x, d, M', L', mk, t1, t2, t3, t4, t5, t6, t7, t8, t9, t10⟩ := hT ea eb he'
    rw [t1, bd1_e, nI_1]
    refine ⟨M', L', R1, bb1, rfl, g2, hO.tr ⟨fun c j q => t8 c j (by omega), fun a j q1 q2 => t9 a j (by omega), fun _ _ _ => rfl⟩, ?_⟩
    refine SeI_take hnt hb64 (M := Mx) (L := L1) ?_ g7 t2 t3 t4 t5 t6 t7 ?_ ?_
    · obtain ⟨i1, i2, i3⟩ := hI
      unfold SeI
      rw [m10, m11, m12, l13, l14]
      exact ⟨i1, i2, i3⟩
    · intro ea' eb' q0 q1 q2
      by_cases y0 : Mx 40 10 = 0
      · rcases t10 with ⟨y1, y2, y3⟩ | ⟨y1, y2, y3⟩
        · exact Or.inl ⟨y1, y2, Or.inl y0⟩
        · exact absurd y0 y1
      · obtain ⟨p1, p2, p3⟩ := he'.resolve_left y0
        obtain ⟨z1, z2, z3, z4⟩ := p3
        obtain ⟨w1, w2, w3, w4⟩ := q0
        obtain rfl : ea = ea' := (lI_eq ⟨by omega, by omega⟩ ⟨by omega, by omega⟩).mp (p1.symm.trans q1)
        obtain rfl : eb = eb' := (lI_eq ⟨by omega, by omega⟩ ⟨by omega, by omega⟩).mp (p2.symm.trans q2)
        exact t10
    · intro q
      rcases t10 with ⟨y1, y2, y3⟩ | ⟨y1, y2, y3⟩
      · exact ⟨y1, y2⟩
      · exact absurd q y1
/-- all sets from b on -/
theorem c_sets (hS : SR sh R) (hN : NetS M nk nt) : ∀ (k b : Nat) (Mx : px_M) (Lx : px_L) (Rx : px_R) (bb : Nat → Nat), b + k = 2 ^ nt → PerR sh Rx bb → OuN M L R Mx Lx Rx → SeI (nA M nk nt none) nt b Mx Lx → ∃ M' L' R' bb', lpf (fun a : Int32 × px_M × px_L × px_R => f_X4_settle_30 sh a.2.1 a.2.2.1 a.2.2.2 a.1) (nI b, Mx, Lx, Rx) = some (M', L', R') ∧ PerR sh R' bb' ∧ OuN M L R M' L' R' ∧ SeI (nA M nk nt none) nt (2 ^ nt) M' L'
  | 0, b, Mx, Lx, Rx, bb, hk, hP, hO, hI => by
    obtain rfl : b = 2 ^ nt := by omega
    refine ⟨Mx, Lx, Rx, bb, lpf_end ?_, hP, hO, hI⟩
    show f_X4_settle_30 sh Mx Lx Rx (nI (2 ^ nt)) = _
    unfold f_X4_settle_30
    rw [hO.1 40 8 (by omega), hN.2.1.2.2.1, pow_s nt hN.1.2, if_pos (Int32.le_refl _)]
  | k + 1, b, Mx, Lx, Rx, bb, hk, hP, hO, hI => by
    have hA : nA Mx nk nt none = nA M nk nt none := nA_w fun c j h1 h2 => hO.1 c j (by omega)
    obtain ⟨M', L', R', bb', g1, g2, g3, g4⟩ := c_set (M := Mx) (L := Lx) (R := Rx) (nk := nk) (SR_48 hS hO.2.2) (hN.w fun c j q => hO.1 c j (by omega)) hP (show b < 2 ^ nt by omega) (by rw [hA]; exact hI)
    rw [hA] at g4
    rw [lpf_go (body := fun a : Int32 × px_M × px_L × px_R => f_X4_settle_30 sh a.2.1 a.2.2.1 a.2.2.2 a.1) (a := (nI b, Mx, Lx, Rx)) (a' := (nI (b + 1), M', L', R')) g1]
    exact c_sets hS hN k (b + 1) M' L' R' bb' (by omega) g2 (hO.tr g3) g4
end SE
