/-! a set's forces as fractions over one number; the class keeps the least sum -/
theorem lc_ge2 {a b : Int} (ha : rg a) (hb : rg b) : (0 ≤ lg_cmp (lI a) (lI b)) ↔ b ≤ a := by
  rw [lg_cmp_ge, Int64.le_iff_toInt_le, lI_t ha, lI_t hb]
def Fo (A : Nat → Nat → Int) (st : Nat) (x : Nat → Int) (d : Int) : Prop :=
  ∃ P, PC A P (Sx st (cl st).length) ∧ (∀ r, r ∈ P → r < 12) ∧ (∀ r, r < 12 → dt A (6 :: Sx st (cl st).length) (r :: P) = 0) ∧ 0 < d ∧ ∀ t, t < 6 → 0 ≤ x t ∧ (¬ st.testBit t = true → x t = 0) ∧ (st.testBit t = true → x t * ((dt A (Sx st (cl st).length) P).natAbs : Int) = ((Uj A (Sx st (cl st).length) P ((cl st).length - 1 - cN st t) 6).natAbs : Int) * d)
theorem Fo_uq {A : Nat → Nat → Int} {st : Nat} (hst : st < 64) {x x' : Nat → Int} {d d' : Int} (h : Fo A st x d) (h' : Fo A st x' d') {t : Nat} (ht : t < 6) : x t * d' = x' t * d := by
  obtain ⟨P, p1, p2, p3, p4, p5⟩ := h
  obtain ⟨P', q1, q2, q3, q4, q5⟩ := h'
  obtain ⟨a1, a2, a3⟩ := p5 t ht
  obtain ⟨b1, b2, b3⟩ := q5 t ht
  by_cases hb : st.testBit t = true
  · obtain ⟨-, hc⟩ := (cl_t st hst).2.2.1 t ht hb
    have hv := piv_val A p1 q1 q2 p3 (j := (cl st).length - 1 - cN st t) (by rw [Sx_len]; omega)
    have e1 := a3 hb
    have e2 := b3 hb
    have hD := PC_d A p1
    have hD' := PC_d A q1
    have hv' := congrArg Int.natAbs hv
    rw [Int.natAbs_mul, Int.natAbs_mul] at hv'
    generalize (Uj A (Sx st (cl st).length) P ((cl st).length - 1 - cN st t) 6).natAbs = U at *
    generalize (Uj A (Sx st (cl st).length) P' ((cl st).length - 1 - cN st t) 6).natAbs = U' at *
    have hE : 0 < (dt A (Sx st (cl st).length) P).natAbs := by omega
    have hE' : 0 < (dt A (Sx st (cl st).length) P').natAbs := by omega
    generalize (dt A (Sx st (cl st).length) P).natAbs = E at *
    generalize (dt A (Sx st (cl st).length) P').natAbs = E' at *
    have hw : (E : Int) * U' = U * E' := by exact_mod_cast hv'
    have hEE : ((E : Int) * E') ≠ 0 := Int.mul_ne_zero (by omega) (by omega)
    apply Int.eq_of_mul_eq_mul_left hEE
    have l1 : (E : Int) * E' * (x t * d') = (x t * E) * d' * E' := by grind
    have l2 : (E : Int) * E' * (x' t * d) = (x' t * E') * d * E := by grind
    rw [l1, l2, e1, e2]
    have l3 : (U : Int) * d * d' * E' = (U * E') * (d * d') := by grind
    have l4 : (U' : Int) * d' * d * E = (E * U') * (d * d') := by grind
    rw [l3, l4, hw]
  · rw [a2 hb, b2 hb, Int.zero_mul, Int.zero_mul]
theorem sN_mul (c : Int) (f : Nat → Int) : ∀ n, sN n f * c = sN n (fun j => f j * c)
  | 0 => Int.zero_mul c
  | n + 1 => by
    show (sN n f + f n) * c = sN n (fun j => f j * c) + f n * c
    rw [Int.add_mul, sN_mul c f n]
theorem Fo_sum {A : Nat → Nat → Int} {st : Nat} (hst : st < 64) {x x' : Nat → Int} {d d' : Int} (h : Fo A st x d) (h' : Fo A st x' d') {n : Nat} (hn : n ≤ 6) : sN n x * d' = sN n x' * d := by
  rw [sN_mul, sN_mul]
  exact sN_congr n fun j hj => Fo_uq hst h h' (by omega)
theorem sN_le {f : Nat → Int} {B : Int} : ∀ n, (∀ j, j < n → 0 ≤ f j ∧ f j ≤ B) → 0 ≤ sN n f ∧ sN n f ≤ n * B
  | 0, _ => ⟨Int.le_refl _, by simp [sN]⟩
  | n + 1, h => by
    obtain ⟨i1, i2⟩ := sN_le n fun j hj => h j (by omega)
    obtain ⟨h1, h2⟩ := h n (by omega)
    show 0 ≤ sN n f + f n ∧ sN n f + f n ≤ ((n + 1 : Nat) : Int) * B
    have : ((n + 1 : Nat) : Int) * B = n * B + B := by rw [Int.natCast_add, Int.add_mul]; simp
    omega
def eaB (a b : Int) : Prop := 0 ≤ a ∧ a ≤ 28080000000 ∧ 0 < b ∧ b ≤ 312000000
theorem eaB_rg {a b c d : Int} (h : eaB a b) (h' : eaB c d) : rg (a * d) := by
  obtain ⟨h1, h2, -, -⟩ := h
  obtain ⟨-, -, h3, h4⟩ := h'
  have e1 := Int.mul_nonneg h1 (show 0 ≤ d by omega)
  have e2 : a * d ≤ 28080000000 * 312000000 := Int.mul_le_mul h2 h4 (by omega) (by decide)
  exact ⟨by omega, by omega⟩
section TS2
variable {sh : px_Sh} {M : px_M} {R : px_R} {A : Nat → Nat → Int} {st m nt : Nat}
theorem c_take (hh : hsh sh) (hk : ∀ k, k < 6 → Spa A k) (h6 : ∀ x, (A x 6).natAbs ≤ 100) (hnt : nt ≤ 6) (hst : st < 2 ^ nt) (hm : m ≤ 12) (h8 : M 40 8 = nI nt) (h17 : M 40 17 = nI (cl st).length) (hnm : (cl st).length ≤ m) {lb bb : Nat → Nat} {L : px_L} (hI : EI A st m sh (cl st).length lb bb L R) (hlb : ∀ i, i < m → lb i < 12) (hz : ∀ r, r < 12 → dt A (6 :: Sx st (cl st).length) (r :: Px lb (cl st).length) = 0) {ea eb : Int} (he : M 40 10 = 0 ∨ (L 40 13 = lI ea ∧ L 40 14 = lI eb ∧ eaB ea eb)) :
    ∃ x d M' L' mk, f_X4_takeStand sh M L R (nI st) = some (M', L') ∧ Fo A st x d ∧ eaB (sN nt x) d ∧ M' 40 10 = 1 ∧ M' 40 11 = M 40 11 ||| (mk ^^^ (-1)) ∧ M' 40 12 = M 40 12 ||| mk ∧ (∀ t, t < nt → (((mk >>> (nI t &&& 31)) &&& 1 = 1) ↔ 0 < x t)) ∧ (∀ c j, ¬ (c = 40 ∧ 10 ≤ j ∧ j ≤ 12) → M' c j = M c j) ∧ (∀ c j, ¬ (c = 40 ∧ 13 ≤ j ∧ j ≤ 14) → L' c j = L c j) ∧
      ((L' 40 13 = lI (sN nt x) ∧ L' 40 14 = lI d ∧ (M 40 10 = 0 ∨ sN nt x * eb < ea * d)) ∨ (M 40 10 ≠ 0 ∧ L' = L ∧ ea * d ≤ sN nt x * eb)) := by
  have hst64 : st < 64 := Nat.lt_of_lt_of_le hst (Nat.pow_le_pow_right (by decide) hnt)
  have hl6 := (cl_t st hst64).2.1
  have F := c_forces hh hk h6 hnt hst hm h8 h17 hnm hI
  obtain ⟨hP, hij, hpc, h18, hT⟩ := hI
  have hD := PC_d A hpc
  obtain ⟨X, eX⟩ : ∃ X : Nat → Int, X = fun t => ((Te A st lb (cl st).length (cN st t) (cl st).length).natAbs : Int) := ⟨_, rfl⟩
  rw [← eX] at F
  have kap6 : kap st (cl st).length = 6 := by unfold kap; simp
  have hX : ∀ t, t < 6 → st.testBit t = true → X t = ((Uj A (Sx st (cl st).length) (Px lb (cl st).length) ((cl st).length - 1 - cN st t) 6).natAbs : Int) ∧ X t ≤ 4680000000 := by
    intro t ht hb
    obtain ⟨-, hc⟩ := (cl_t st hst64).2.2.1 t ht hb
    obtain ⟨r1, r2, r3⟩ := Te_r hk h6 hst64 hij hnm (show cN st t < m by omega)
    have r2 := r2 hc
    rw [eX]
    dsimp only
    refine ⟨?_, by omega⟩
    unfold Te
    rw [if_pos hc, kap6]
  have hX0 : ∀ t, 0 ≤ X t := fun t => by rw [eX]; dsimp only; omega
  have hDb : (dt A (Sx st (cl st).length) (Px lb (cl st).length)).natAbs ≤ 312000000 := Nat.le_trans (dt_bd hk (cl st).length (Sx st (cl st).length) (Px lb (cl st).length) hl6 (Sx_len st _) (Sx_6 hst64 (Nat.le_refl _)) (Px_len lb _) (Px_nd hij _ hnm)) (bnd_le hl6)
  have hFo : Fo A st (xo st X) ((dt A (Sx st (cl st).length) (Px lb (cl st).length)).natAbs : Int) := by
    refine ⟨Px lb (cl st).length, hpc, fun r hr => ?_, hz, by omega, fun t ht => ?_⟩
    · obtain ⟨j, j1, rfl⟩ := Px_mem _ hr
      exact hlb j (by omega)
    · unfold xo
      by_cases hb : st.testBit t = true
      · rw [if_pos hb]
        exact ⟨hX0 t, fun q => absurd hb q, fun _ => by rw [(hX t ht hb).1]⟩
      · rw [if_neg hb]
        exact ⟨Int.le_refl _, fun _ => rfl, fun q => absurd q hb⟩
  obtain ⟨s1, s2⟩ := sN_le (f := xo st X) (B := 4680000000) nt fun j hj => by
    unfold xo
    by_cases hb : st.testBit j = true
    · rw [if_pos hb]
      exact ⟨hX0 j, (hX j (by omega) hb).2⟩
    · rw [if_neg hb]
      exact ⟨by omega, by omega⟩
  obtain ⟨D, eD⟩ : ∃ D, D = dt A (Sx st (cl st).length) (Px lb (cl st).length) := ⟨_, rfl⟩
  rw [← eD] at h18 hD hDb hFo
  have hB : eaB (sN nt (xo st X)) (D.natAbs : Int) := ⟨s1, by omega, by omega, by omega⟩
  have rD : rg D := rg_n hDb (by decide)
  have hbit : ∀ t, t < nt → (((mkb st X nt >>> (nI t &&& 31)) &&& 1 = 1) ↔ 0 < xo st X t) := by
    intro t ht
    rw [mkb_bit st X (show t < 6 by omega) nt hnt]
    unfold xo
    by_cases hb : st.testBit t = true
    · rw [if_pos hb]
      exact ⟨fun q => q.2.2, fun q => ⟨ht, hb, q⟩⟩
    · rw [if_neg hb]
      exact ⟨fun q => absurd q.2.1 hb, fun q => absurd q (by omega)⟩
  generalize mkb st X nt = mk at F hbit
  generalize xo st X = x at F hbit hB hFo
  unfold f_X4_takeStand f_X4_takeStand_138 f_X4_takeStand_149
  rw [F, bd1_e]
  dsimp only [nm]
  rw [h18, j_abs rD, bd1_e]
  have m10 : ∀ a b, px_u (px_u M 40 12 a) 40 11 b 40 10 = M 40 10 := fun a b => by rw [pu_n (by omega), pu_n (by omega)]
  have m11 : ∀ a, px_u M 40 12 a 40 11 = M 40 11 := fun a => pu_n (by omega)
  rw [m10, m11]
  have fin : ∀ a b, px_u (px_u (px_u M 40 12 a) 40 11 b) 40 10 1 40 10 = 1 ∧ px_u (px_u (px_u M 40 12 a) 40 11 b) 40 10 1 40 11 = b ∧ px_u (px_u (px_u M 40 12 a) 40 11 b) 40 10 1 40 12 = a ∧ ∀ c j, ¬ (c = 40 ∧ 10 ≤ j ∧ j ≤ 12) → px_u (px_u (px_u M 40 12 a) 40 11 b) 40 10 1 c j = M c j := by
    intro a b
    refine ⟨by simp (disch := omega) only [pu_n, px_u_in], by simp (disch := omega) only [pu_n, px_u_in], by simp (disch := omega) only [pu_n, px_u_in], fun c j h => ?_⟩
    rw [pu_n (by omega), pu_n (by omega), pu_n (by omega)]
  by_cases h0 : M 40 10 = 0
  · rw [if_pos h0]
    obtain ⟨f1, f2, f3, f4⟩ := fin (M 40 12 ||| mk) (M 40 11 ||| (mk ^^^ (-1)))
    refine ⟨x, _, _, _, mk, rfl, hFo, hB, f1, f2, f3, hbit, f4, fun c j h => ?_, Or.inl ⟨?_, ?_, Or.inl h0⟩⟩
    · rw [pu_n (by omega), pu_n (by omega)]
    · rw [pu_n (by omega), px_u_in]
    · rw [px_u_in]
  · rw [if_neg h0]
    obtain ⟨e1, e2, e3⟩ := he.resolve_left h0
    obtain ⟨f1, f2, f3, f4⟩ := fin (M 40 12 ||| mk) (M 40 11 ||| (mk ^^^ (-1)))
    rw [e1, e2, lI_mul, lI_mul]
    by_cases hc : ea * (D.natAbs : Int) ≤ sN nt x * eb
    · rw [if_pos ((lc_ge2 (eaB_rg hB e3) (eaB_rg e3 hB)).mpr hc)]
      exact ⟨x, _, _, _, mk, rfl, hFo, hB, f1, f2, f3, hbit, f4, fun c j h => rfl, Or.inr ⟨h0, rfl, hc⟩⟩
    · rw [if_neg (fun z => hc ((lc_ge2 (eaB_rg hB e3) (eaB_rg e3 hB)).mp z))]
      refine ⟨x, _, _, _, mk, rfl, hFo, hB, f1, f2, f3, hbit, f4, fun c j h => ?_, Or.inl ⟨?_, ?_, Or.inr (by omega)⟩⟩
      · rw [pu_n (by omega), pu_n (by omega)]
      · rw [pu_n (by omega), px_u_in]
      · rw [px_u_in]
end TS2
