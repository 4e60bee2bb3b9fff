/-! the reference's forces are the class's; corners -/
theorem fr_q {ab un d x : Int} (h1 : 0 < un) (h2 : 0 ≤ ab) (hg : Nat.gcd ab.natAbs un.natAbs = 1) (hd : 0 < d) (hx : 0 ≤ x) (e : ab * d = un * x) : ∃ q, 0 < q ∧ d = un * q ∧ x = ab * q := by
  obtain ⟨a, rfl⟩ : ∃ a : Nat, ab = a := ⟨ab.toNat, by omega⟩
  obtain ⟨u, rfl⟩ : ∃ a : Nat, un = a := ⟨un.toNat, by omega⟩
  obtain ⟨D, rfl⟩ : ∃ a : Nat, d = a := ⟨d.toNat, by omega⟩
  obtain ⟨X, rfl⟩ : ∃ a : Nat, x = a := ⟨x.toNat, by omega⟩
  have e' : a * D = u * X := by exact_mod_cast e
  have hg' : Nat.Coprime u a := by
    have : Nat.gcd a u = 1 := hg
    rw [Nat.gcd_comm] at this
    exact this
  obtain ⟨q, rfl⟩ : u ∣ D := hg'.dvd_of_dvd_mul_left ⟨X, e'⟩
  have hX : X = a * q := by
    apply Nat.eq_of_mul_eq_mul_left (show 0 < u by omega)
    rw [← e']
    grind
  refine ⟨q, ?_, by simp, by rw [hX]; simp⟩
  rcases Nat.eq_zero_or_pos q with z | z
  · rw [z] at hd; simp at hd
  · omega
section MC
variable {sh : px_Sh} {M Mx : px_M} {L : px_L} {R : px_R} {nk nt : Nat}
theorem Fr_BF {A : Nat → Nat → Int} {st : Nat} (hk : ∀ k, k < 6 → Spa A k) (h6 : ∀ x, (A x 6).natAbs ≤ 100) (hnt : nt ≤ 6) (hst : st < 2 ^ nt) (hB : Bal A (Sx st (cl st).length)) {P : List Nat} (hpc : PC A P (Sx st (cl st).length)) (hnd : P.Nodup) (h12 : ∀ r, r ∈ P → r < 12) (hz : ∀ r, r < 12 → dt A (6 :: Sx st (cl st).length) (r :: P) = 0) {ab un : Nat → Int} (hF : ∀ t, t < nt → Fr A st (cl st).length P t (ab t) (un t)) :
    ∃ x d, BF A st x d ∧ d = ((dt A (Sx st (cl st).length) P).natAbs : Int) ∧ eaB (sN nt x) d ∧ ∀ t, t < nt → (0 < un t ∧ 0 ≤ ab t ∧ Nat.gcd (ab t).natAbs (un t).natAbs = 1) ∧ ab t * d = un t * x t ∧ 0 ≤ x t ∧ x t ≤ 4680000000 := by
  have hst64 : st < 64 := Nat.lt_of_lt_of_le hst (Nat.pow_le_pow_right (by decide) hnt)
  have hl6 := (cl_t st hst64).2.1
  have hD := PC_d A hpc
  have hlen : P.length = (cl st).length := by rw [PC_len A hpc, Sx_len]
  have hS6 := Sx_6 hst64 (Nat.le_refl (cl st).length)
  have hDb : (dt A (Sx st (cl st).length) P).natAbs ≤ 312000000 := Nat.le_trans (dt_bd hk (cl st).length (Sx st (cl st).length) P hl6 (Sx_len st _) hS6 hlen hnd) (bnd_le hl6)
  have hU : ∀ t, t < 6 → st.testBit t = true → (Uj A (Sx st (cl st).length) P ((cl st).length - 1 - cN st t) 6).natAbs ≤ 4680000000 := by
    intro t ht hb
    obtain ⟨-, hc⟩ := (cl_t st hst64).2.2.1 t ht hb
    unfold Uj
    rw [Int.natAbs_mul, Int.natAbs_pow, show (-1 : Int).natAbs = 1 from rfl, Nat.one_pow, Nat.one_mul]
    have hel : ((Sx st (cl st).length).eraseIdx ((cl st).length - 1 - cN st t)).length = (cl st).length - 1 := by
      rw [List.length_eraseIdx, Sx_len, if_pos (by omega)]
    have h1 := dt_rhs hk h6 (m := (cl st).length - 1) (by omega) hel (fun s hs => hS6 s (List.mem_of_mem_eraseIdx hs)) (R := P) (by omega) hnd
    have h2 := bnd_5 (m := (cl st).length - 1) (by omega)
    have h3 : ((cl st).length - 1 + 1) * (100 * bnd ((cl st).length - 1)) ≤ 6 * (100 * 7800000) := Nat.mul_le_mul (by omega) (Nat.mul_le_mul (Nat.le_refl _) h2)
    omega
  obtain ⟨X, eX⟩ : ∃ X : Nat → Int, X = fun t => ((Uj A (Sx st (cl st).length) P ((cl st).length - 1 - cN st t) 6).natAbs : Int) := ⟨_, rfl⟩
  have hX : ∀ t, X t = ((Uj A (Sx st (cl st).length) P ((cl st).length - 1 - cN st t) 6).natAbs : Int) := fun t => by rw [eX]
  obtain ⟨s1, s2⟩ := sN_le (f := xo st X) (B := 4680000000) nt fun j hj => by
    unfold xo
    by_cases hb : st.testBit j = true
    · rw [if_pos hb, hX]
      have := hU j (by omega) hb
      exact ⟨by omega, by omega⟩
    · rw [if_neg hb]
      exact ⟨by omega, by omega⟩
  refine ⟨xo st X, _, ⟨hB, P, hpc, h12, hz, ?_, fun t ht => ?_⟩, rfl, ⟨s1, by omega, by omega, by omega⟩, fun t ht => ?_⟩
  · omega
  · unfold xo
    by_cases hb : st.testBit t = true
    · rw [if_pos hb, hX]
      exact ⟨by omega, fun q => absurd hb q, fun _ => rfl⟩
    · rw [if_neg hb]
      exact ⟨Int.le_refl _, fun _ => rfl, fun q => absurd q hb⟩
  · obtain ⟨f1, f2, f3⟩ := hF t ht
    refine ⟨f1, ?_⟩
    unfold xo
    by_cases hb : st.testBit t = true
    · rw [if_pos hb, hX]
      have e := congrArg Int.natAbs (f2 hb)
      rw [Int.natAbs_mul, Int.natAbs_mul] at e
      obtain ⟨f4, f5, -⟩ := f1
      have e1 : ab t = ((ab t).natAbs : Int) := by omega
      have e2 : un t = ((un t).natAbs : Int) := by omega
      have := hU t (by omega) hb
      refine ⟨?_, by omega, by omega⟩
      rw [e1, e2]
      exact_mod_cast e
    · rw [if_neg hb, (f3 hb).1, Int.zero_mul, Int.mul_zero]
      exact ⟨rfl, by omega, by omega⟩
end MC
