/-! the class shortens the ease; settle -/
theorem c_gcd {M : px_M} {L : px_L} : ∀ (k i x y : Nat), i + 2 * k ≤ 99 → x < 2 ^ 63 → y < 2 ^ k → k < 63 → lpf (fun a : Int64 × Int64 × Int32 => f_X4_reduceEase_13 M L a.1 a.2.1 a.2.2) (lN x, lN y, nI i) = some (lN (Nat.gcd x y)) := by
  have hend : ∀ i x, i ≤ 99 → lpf (fun a : Int64 × Int64 × Int32 => f_X4_reduceEase_13 M L a.1 a.2.1 a.2.2) (lN x, lN 0, nI i) = some (lN (Nat.gcd x 0)) := by
    intro i x hi
    refine lpf_end ?_
    show f_X4_reduceEase_13 M L (lN x) (lN 0) (nI i) = _
    unfold f_X4_reduceEase_13
    rw [show (100 : Int32) = nI 100 from rfl, if_neg (nI_ge (show i < 100 by omega) (by omega)), if_pos (show lg_cmp (lN 0) 0 = 0 from (lg_cmp_eq _ _).mpr rfl), Nat.gcd_zero_right]
  have hstep : ∀ i x y, i ≤ 99 → x < 2 ^ 63 → y < 2 ^ 63 → y ≠ 0 → (fun a : Int64 × Int64 × Int32 => f_X4_reduceEase_13 M L a.1 a.2.1 a.2.2) (lN x, lN y, nI i) = some (.inl (lN y, lN (x % y), nI (i + 1))) := by
    intro i x y hi hx hy e
    show f_X4_reduceEase_13 M L (lN x) (lN y) (nI i) = _
    unfold f_X4_reduceEase_13
    have hne : ¬ lN y = 0 := fun z => e ((pk_lEQ (b := 0) hy (by decide)).mp z)
    rw [show (100 : Int32) = nI 100 from rfl, if_neg (nI_ge (show i < 100 by omega) (by omega)), if_neg (fun z => hne ((lg_cmp_eq _ _).mp z)), ok_t (nz_t hne), nm_u, pk_lRem hx (by omega) hy, nI_1]
  have hg : ∀ x y : Nat, Nat.gcd y (x % y) = Nat.gcd x y := fun x y => by rw [Nat.gcd_comm x y, Nat.gcd_rec y x, Nat.gcd_comm]
  intro k
  induction k with
  | zero =>
    intro i x y hi hx hy hk
    obtain rfl : y = 0 := by
      have : (2 : Nat) ^ 0 = 1 := rfl
      omega
    exact hend i x (by omega)
  | succ k ih =>
    intro i x y hi hx hy hk
    have hp : 2 ^ (k + 1) ≤ 2 ^ 63 := Nat.pow_le_pow_right (by decide) (by omega)
    by_cases e : y = 0
    · subst e
      exact hend i x (by omega)
    · rw [lpf_go (hstep i x y (by omega) hx (by omega) e)]
      have h1 := Nat.mod_lt x (show y > 0 by omega)
      by_cases e1 : x % y = 0
      · rw [e1, hend (i + 1) y (by omega), ← hg x y, e1]
      · rw [lpf_go (hstep (i + 1) y (x % y) (by omega) (by omega) (by omega) e1)]
        have h2 := Nat.mod_lt y (show x % y > 0 by omega)
        have h3 : 2 * (y % (x % y)) < y := by
          have h4 := Nat.div_add_mod y (x % y)
          have h5 : 1 ≤ y / (x % y) := Nat.div_pos (by omega) (by omega)
          have h6 : x % y * 1 ≤ x % y * (y / (x % y)) := Nat.mul_le_mul (Nat.le_refl _) h5
          omega
        rw [ih (i + 2) (x % y) (y % (x % y)) (by omega) (by omega) (by rw [Nat.pow_succ] at hy; omega) (by omega), hg y (x % y), hg x y]
theorem c_any {M : px_M} {L : px_L} : ∀ (k i : Nat) (x y : Int64), i + k = 100 → ∃ g, lpf (fun a : Int64 × Int64 × Int32 => f_X4_reduceEase_13 M L a.1 a.2.1 a.2.2) (x, y, nI i) = some g
  | 0, i, x, y, hi => by
    obtain rfl : i = 100 := by omega
    refine ⟨x, lpf_end ?_⟩
    show f_X4_reduceEase_13 M L x y (nI 100) = _
    unfold f_X4_reduceEase_13
    rw [if_pos (by decide)]
  | k + 1, i, x, y, hi => by
    by_cases e : y = 0
    · refine ⟨x, lpf_end ?_⟩
      show f_X4_reduceEase_13 M L x y (nI i) = _
      unfold f_X4_reduceEase_13
      rw [show (100 : Int32) = nI 100 from rfl, if_neg (nI_ge (show i < 100 by omega) (by omega)), if_pos ((lg_cmp_eq _ _).mpr e)]
    · have hb : (fun a : Int64 × Int64 × Int32 => f_X4_reduceEase_13 M L a.1 a.2.1 a.2.2) (x, y, nI i) = some (.inl (y, x - x / y * y, nI (i + 1))) := by
        show f_X4_reduceEase_13 M L x y (nI i) = _
        unfold f_X4_reduceEase_13
        rw [show (100 : Int32) = nI 100 from rfl, if_neg (nI_ge (show i < 100 by omega) (by omega)), if_neg (fun z => e ((lg_cmp_eq _ _).mp z)), ok_t (nz_t e), nm_u, nI_1]
      rw [lpf_go hb]
      exact c_any k (i + 1) _ _ (by omega)
theorem c_reduce {M : px_M} {L : px_L} (h : M 40 10 = 0 ∨ (M 40 10 ≠ 0 ∧ ∃ a b : Int, L 40 13 = lI a ∧ L 40 14 = lI b ∧ eaB a b)) : ∃ L', f_X4_reduceEase M L = some L' ∧ (∀ c j, ¬ (c = 40 ∧ (j = 13 ∨ j = 14)) → L' c j = L c j) ∧ ∀ a b : Int, M 40 10 ≠ 0 → L 40 13 = lI a → L 40 14 = lI b → eaB a b → ∃ a' b' : Int, L' 40 13 = lI a' ∧ L' 40 14 = lI b' ∧ eaB a' b' ∧ Nat.gcd a'.natAbs b'.natAbs = 1 ∧ a' * b = a * b' := by
  unfold f_X4_reduceEase f_X4_reduceEase_75
  rcases h with h | ⟨h, a, b, ha, hb, hB⟩
  · obtain ⟨g, hg⟩ := c_any (M := M) (L := L) 100 0 (L 40 13) (L 40 14) rfl
    rw [nm_u, nm_u, show (0 : Int32) = nI 0 from rfl, hg, bd1_e, show nI 0 = (0 : Int32) from rfl, if_pos h]
    exact ⟨L, rfl, fun _ _ _ => rfl, fun _ _ q => absurd h q⟩
  · obtain ⟨b1, b2, b3, b4⟩ := hB
    obtain ⟨x, rfl⟩ : ∃ x : Nat, a = x := ⟨a.toNat, by omega⟩
    obtain ⟨y, rfl⟩ : ∃ y : Nat, b = y := ⟨b.toNat, by omega⟩
    have hg := c_gcd (M := M) (L := L) 29 0 x y (by omega) (by omega) (by omega) (by omega)
    have hgp : 0 < Nat.gcd x y := Nat.gcd_pos_of_pos_right _ (by omega)
    have hgl : Nat.gcd x y ≤ y := Nat.gcd_le_right _ (by omega)
    obtain ⟨x', ex⟩ := Nat.gcd_dvd_left x y
    obtain ⟨y', ey⟩ := Nat.gcd_dvd_right x y
    have hcop : Nat.gcd (x / Nat.gcd x y) (y / Nat.gcd x y) = 1 := by rw [Nat.gcd_div (Nat.gcd_dvd_left _ _) (Nat.gcd_dvd_right _ _)]; exact Nat.div_self hgp
    generalize hG : Nat.gcd x y = G at *
    have hx' : x / G = x' := by rw [ex]; exact Nat.mul_div_cancel_left _ hgp
    have hy' : y / G = y' := by rw [ey]; exact Nat.mul_div_cancel_left _ hgp
    have rG : rg (G : Int) := ⟨by omega, by omega⟩
    have rx : rg (x : Int) := ⟨by omega, by omega⟩
    have ry : rg (y : Int) := ⟨by omega, by omega⟩
    have hnz : nz (lN G) 0 = true := by rw [← lI_N]; exact lc_nz rG (by omega)
    have hn0 : ¬ lg_cmp (lN G) 0 = 0 := by rw [← lI_N]; exact fun z => absurd ((lc_0 rG).mp z) (by omega)
    have d1 : lI (x : Int) / lN G = lI (x' : Int) := by
      rw [← lI_N, lI_div rx rG]
      congr 1
      rw [← hx']
      rfl
    have d2 : lI (y : Int) / lN G = lI (y' : Int) := by
      rw [← lI_N, lI_div ry rG]
      congr 1
      rw [← hy']
      rfl
    rw [nm_u, nm_u, ha, hb, lI_N, lI_N, show (0 : Int32) = nI 0 from rfl, hg, bd1_e, show nI 0 = (0 : Int32) from rfl, if_neg h, if_neg hn0, ok_t hnz, nm_u, nm_u, ok_t hnz, nm_u, nm_u, pu_n (show ¬ ((40 : Nat) = 40 ∧ (14 : Nat) = 13) by omega), hb, ← lI_N, d1, d2]
    refine ⟨_, rfl, fun c j q => ?_, fun a b _ qa qb qB => ?_⟩
    · rw [pu_n (by omega), pu_n (by omega)]
    · obtain ⟨w1, w2, w3, w4⟩ := qB
      obtain rfl : a = x := (lI_eq ⟨by omega, by omega⟩ rx).mp qa.symm
      obtain rfl : b = y := (lI_eq ⟨by omega, by omega⟩ ry).mp ((lI_N y).trans qb).symm
      have l1 : x' ≤ x := by rw [← hx']; exact Nat.div_le_self _ _
      have l2 : y' ≤ y := by rw [← hy']; exact Nat.div_le_self _ _
      have l3 : 0 < y' := by
        rcases Nat.eq_zero_or_pos y' with q | q
        · rw [q] at ey; omega
        · exact q
      refine ⟨x', y', by rw [pu_n (by omega), px_u_in], by rw [px_u_in], ⟨by omega, by omega, by omega, by omega⟩, ?_, ?_⟩
      · rw [hx', hy'] at hcop
        exact hcop
      · have : x' * y = x * y' := by rw [ex, ey]; grind
        exact_mod_cast this
