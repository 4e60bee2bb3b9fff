/-! the class's balances, from the net's cells -/
theorem SR_48 {sh : px_Sh} {R R' : px_R} (h : SR sh R) (hR : ∀ a j, a ≠ 48 → R' a j = R a j) : SR sh R' := by
  refine ⟨h.1, fun k j b e => ?_⟩
  by_cases q : k = 48
  · subst q
    rw [rlay_48] at e
    exact absurd e (by simp)
  · rw [hR k j q]; exact h.2 k j b e
theorem flN_mem {M : px_M} {i k : Nat} (h : k ∈ flN M i) : k < i ∧ M 198 k = 0 := by
  unfold flN at h
  rw [List.mem_filter] at h
  exact ⟨List.mem_range.mp h.1, by simpa using h.2⟩
theorem flN_nd (M : px_M) (i : Nat) : (flN M i).Nodup := List.Pairwise.filter _ List.nodup_range
theorem lbl_inj {fl : List Nat} (h : fl.Nodup) : ∀ i j, i < 2 * fl.length → j < 2 * fl.length → lbl fl i = lbl fl j → i = j := by
  intro i j hi hj e
  unfold lbl at e
  have e1 : fl.getD (i / 2) 0 = fl.getD (j / 2) 0 := by omega
  have e2 : i % 2 = j % 2 := by omega
  have h1 : i / 2 < fl.length := by omega
  have h2 : j / 2 < fl.length := by omega
  rw [show fl.getD (i / 2) 0 = fl[i / 2] by simp [h1], show fl.getD (j / 2) 0 = fl[j / 2] by simp [h2]] at e1
  have hpw := List.pairwise_iff_getElem.mp h
  by_cases c1 : i / 2 < j / 2
  · exact absurd e1 (hpw _ _ h1 h2 c1)
  · by_cases c2 : j / 2 < i / 2
    · exact absurd e1.symm (hpw _ _ h2 h1 c2)
    · omega
section CB
variable {sh : px_Sh} {M : px_M} {R : px_R} {nk nt : Nat} {dr : Option Nat} {bb : Nat → Nat}
theorem lbl_12 (hN : NetS M nk nt) {i : Nat} (hi : i < 2 * (flN M nk).length) : lbl (flN M nk) i < 12 ∧ frk M nk (lbl (flN M nk) i / 2) := by
  have h1 : i / 2 < (flN M nk).length := by omega
  have hm : (flN M nk).getD (i / 2) 0 ∈ flN M nk := by
    rw [show (flN M nk).getD (i / 2) 0 = (flN M nk)[i / 2] by simp [h1]]
    exact List.getElem_mem h1
  obtain ⟨q1, q2⟩ := flN_mem hm
  have := hN.1.1
  unfold lbl
  refine ⟨by omega, ?_⟩
  rw [show (2 * (flN M nk).getD (i / 2) 0 + i % 2) / 2 = (flN M nk).getD (i / 2) 0 by omega]
  exact ⟨q1, q2⟩
theorem lbl_all (r : Nat) : (∃ i, i < 2 * (flN M nk).length ∧ r = lbl (flN M nk) i) ∨ ∀ k, nA M nk nt dr r k = 0 := by
  by_cases f : frk M nk (r / 2)
  · left
    have hm : r / 2 ∈ flN M nk := by
      unfold flN
      rw [List.mem_filter]
      exact ⟨List.mem_range.mpr f.1, by simpa using f.2⟩
    obtain ⟨l, hl, e⟩ := List.mem_iff_getElem.mp hm
    refine ⟨2 * l + r % 2, by omega, ?_⟩
    unfold lbl
    rw [show (2 * l + r % 2) / 2 = l by omega, show (2 * l + r % 2) % 2 = r % 2 by omega, show (flN M nk).getD l 0 = (flN M nk)[l] by simp [hl], e]
    omega
  · right
    exact nA_n f
theorem dt_11 (A : Nat → Nat → Int) (k r : Nat) : dt A [k] [r] = A r k := by
  show A r k * dt A [] [] - ls [] _ = A r k
  show A r k * (if ([] : List Nat) = [] then 1 else 0) - 0 = A r k
  rw [if_pos rfl]
  omega
theorem c_balances (hS : SR sh R) (hN : NetS M nk nt) (hP : PerR sh R bb) {st : Nat} (hst : st < 2 ^ nt) {p2 : Int32} (hp2 : (dr = none ∧ p2 = -1) ∨ ∃ s, s < nt ∧ dr = some s ∧ p2 = nI s) (L : px_L) :
    ∃ z Mx L' R' bb', f_X4_balances sh M L R (nI st) p2 = some (z, Mx, L', R') ∧ PerR sh R' bb' ∧ (∀ c j, ¬ (c = 40 ∧ (j = 16 ∨ j = 17)) → Mx c j = M c j) ∧ (∀ a j, a < 49 ∨ 60 < a → ¬ (a = 40 ∧ j = 18) → L' a j = L a j) ∧ (∀ a j, a ≠ 48 → R' a j = R a j) ∧ Mx 40 17 = nI (cl st).length ∧
      ((z = 0 ∧ ¬ Bal (nA M nk nt dr) (Sx st (cl st).length)) ∨ (z = 1 ∧ Bal (nA M nk nt dr) (Sx st (cl st).length) ∧ ∃ lb m, (cl st).length ≤ m ∧ m ≤ 12 ∧ EI (nA M nk nt dr) st m sh (cl st).length lb bb' L' R' ∧ (∀ i, i < m → lb i < 12) ∧ ∀ r, r < 12 → dt (nA M nk nt dr) (6 :: Sx st (cl st).length) (r :: Px lb (cl st).length) = 0)) := by
  have h6 := hN.1
  have hst64 : st < 64 := Nat.lt_of_lt_of_le hst (Nat.pow_le_pow_right (by decide) h6.2)
  have hd : ∀ s, dr = some s → s < nt := by
    intro s e
    rcases hp2 with ⟨d1, -⟩ | ⟨s', d0, d1, -⟩
    · rw [d1] at e; exact absurd e (by simp)
    · rw [d1] at e; obtain rfl := Option.some.inj e; exact d0
  have hfl := flN_len M nk
  obtain ⟨Mx, L1, g1, g2, g3, g4, g5, g6⟩ := c_fillTable (dr := dr) hS hN hP hst hp2 L
  have hE0 : EI (nA M nk nt dr) st (2 * (flN M nk).length) sh 0 (lbl (flN M nk)) bb (px_u L1 40 18 1) R := by
    refine ⟨hP, lbl_inj (flN_nd M nk), trivial, px_u_in _ _ _ _, fun i hi k hk => ?_⟩
    obtain ⟨b1, b2, b3⟩ := hP.1 i (by omega)
    rw [pu_n (by omega), g5 i hi k hk]
    unfold Te
    rw [if_neg (by omega)]
    show _ = lI (dt (nA M nk nt dr) [kap st k] [lbl (flN M nk) i])
    rw [dt_11]
  obtain ⟨z, L', R', bb', k1, k2, k3, k4, k5⟩ := c_bal (M := Mx) (hsh_of hS) (fun k hk => nA_sp hN hk) (fun x => nA_6 hN hd x) hst64 (by omega) g3 g4 hE0 (fun i hi => (lbl_12 hN hi).1) (fun r _ => lbl_all r)
  refine ⟨z, Mx, L', R', bb', ?_, k2, g2, fun a j h1 h2 => (k3 a j h1 h2).trans (g6 a j h1), k4, g4, ?_⟩
  · unfold f_X4_balances
    rw [g1, bd1_e]
    exact k1
  · rcases k5 with q | ⟨q1, q2, lb, q3, q4, q5, q6⟩
    · exact Or.inl q
    · exact Or.inr ⟨q1, q2, lb, _, q3, by omega, q4, q5, q6⟩
end CB
