/-! the reference's divisor and shorten -/
theorem lI_N (n : Nat) : lI (n : Int) = lN n := Int64.ofInt_eq_ofNat
theorem m_gcd : ∀ (y x : Nat), x < 2 ^ 63 → y < 2 ^ 63 → lpf (fun a : Int64 × Int64 => f_X12_divisor_28 a.1 a.2) (lN x, lN y) = some (lN (Nat.gcd x y)) := by
  intro y
  induction y using Nat.strongRecOn with
  | ind y ih =>
    intro x hx hy
    by_cases e : y = 0
    · subst e
      refine lpf_end ?_
      show f_X12_divisor_28 (lN x) (lN 0) = _
      unfold f_X12_divisor_28
      rw [if_pos (show lg_cmp (lN 0) 0 = 0 from (lg_cmp_eq _ _).mpr rfl), Nat.gcd_zero_right]
    · have hb : (fun a : Int64 × Int64 => f_X12_divisor_28 a.1 a.2) (lN x, lN y) = some (.inl (lN y, lN (x % y))) := by
        show f_X12_divisor_28 (lN x) (lN y) = _
        unfold f_X12_divisor_28
        have hne : ¬ lN y = 0 := fun z => e ((pk_lEQ (b := 0) hy (by decide)).mp z)
        rw [if_neg (fun z => hne ((lg_cmp_eq _ _).mp z)), ok_t (nz_t hne), nm_u, pk_lRem hx (by omega) hy]
      rw [lpf_go hb, ih (x % y) (Nat.mod_lt _ (by omega)) y hy (by have := Nat.mod_lt x (show y > 0 by omega); omega)]
      congr 2
      rw [Nat.gcd_comm x y, Nat.gcd_rec y x, Nat.gcd_comm]
theorem lI_abs {a : Int} (ha : rg a) : (if 0 ≤ lg_cmp (lI a) 0 then lI a else -lI a) = lN a.natAbs := by
  by_cases h : 0 ≤ a
  · rw [if_pos ((lc_ge ha).mpr h), ← lI_N]
    congr 1
    omega
  · rw [if_neg (fun z => h ((lc_ge ha).mp z)), lI_neg, ← lI_N]
    congr 1
    omega
theorem m_div {a b : Int} (ha : rg a) (hb : rg b) : f_X12_divisor (lI a) (lI b) = some (lI (Nat.gcd a.natAbs b.natAbs)) := by
  have h1 := ha.1
  have h2 := ha.2
  have h3 := hb.1
  have h4 := hb.2
  have e : f_X12_divisor (lI a) (lI b) = f_X12_divisor_26 (if 0 ≤ lg_cmp (lI a) 0 then lI a else -lI a) (if 0 ≤ lg_cmp (lI b) 0 then lI b else -lI b) := by
    unfold f_X12_divisor f_X12_divisor_12
    split <;> split <;> rfl
  rw [e, lI_abs ha, lI_abs hb]
  unfold f_X12_divisor_26
  rw [m_gcd _ _ (by omega) (by omega), bd1_e, lI_N]
/-- the greatest divisor of a row's first entries -/
def gF (w : Nat → Int) : Nat → Nat
  | 0 => 0
  | k + 1 => Nat.gcd (w k).natAbs (gF w k)
theorem gF_dvd (w : Nat → Int) : ∀ n k, k < n → gF w n ∣ (w k).natAbs
  | 0, k, h => absurd h (by omega)
  | n + 1, k, h => by
    by_cases e : k = n
    · subst e; exact Nat.gcd_dvd_left _ _
    · exact Nat.dvd_trans (Nat.gcd_dvd_right _ _) (gF_dvd w n k (by omega))
theorem gF_gr {w : Nat → Int} {m : Nat} : ∀ n, (∀ k, k < n → m ∣ (w k).natAbs) → m ∣ gF w n
  | 0, _ => Nat.dvd_zero m
  | n + 1, h => Nat.dvd_gcd (h n (by omega)) (gF_gr n fun k hk => h k (by omega))
theorem gF_mul (c : Int) (w : Nat → Int) : ∀ n, gF (fun k => c * w k) n = c.natAbs * gF w n
  | 0 => by show 0 = c.natAbs * 0; omega
  | n + 1 => by
    show Nat.gcd (c * w n).natAbs (gF (fun k => c * w k) n) = c.natAbs * Nat.gcd (w n).natAbs (gF w n)
    rw [gF_mul c w n, Int.natAbs_mul, Nat.gcd_mul_left]
theorem gF_cg {w v : Nat → Int} : ∀ n, (∀ k, k < n → w k = v k) → gF w n = gF v n
  | 0, _ => rfl
  | n + 1, h => by
    show Nat.gcd (w n).natAbs (gF w n) = Nat.gcd (v n).natAbs (gF v n)
    rw [h n (by omega), gF_cg n fun k hk => h k (by omega)]
theorem gF_0 {w : Nat → Int} {n : Nat} (h : gF w n = 0) {k : Nat} (hk : k < n) : w k = 0 := by
  have := gF_dvd w n k hk
  rw [h] at this
  have := Nat.eq_zero_of_zero_dvd this
  omega
/-- a row without a common divisor is the shortest of its like -/
theorem prim_le {T W : Nat → Int} {n : Nat} {a b : Int} (hp : gF T n ≤ 1) (ha : a ≠ 0) (hb : b ≠ 0) (h : ∀ k, k < n → b * W k = a * T k) {k : Nat} (hk : k < n) : (T k).natAbs ≤ (W k).natAbs := by
  by_cases e : gF T n = 0
  · rw [gF_0 e hk]; exact Nat.zero_le _
  · have e1 : gF T n = 1 := by omega
    have d1 : b.natAbs ∣ gF (fun k => a * T k) n := gF_gr n fun k hk => by
      rw [← h k hk, Int.natAbs_mul]
      exact Nat.dvd_mul_right _ _
    rw [gF_mul, e1, Nat.mul_one] at d1
    have hab : b.natAbs ≤ a.natAbs := Nat.le_of_dvd (by omega) d1
    have hk' := h k hk
    have e2 : b.natAbs * (W k).natAbs = a.natAbs * (T k).natAbs := by rw [← Int.natAbs_mul, ← Int.natAbs_mul, hk']
    have e3 : b.natAbs * (T k).natAbs ≤ b.natAbs * (W k).natAbs := by
      rw [e2]; exact Nat.mul_le_mul hab (Nat.le_refl _)
    exact Nat.le_of_mul_le_mul_left e3 (by omega)
theorem m_shorten {sh : px_Sh} {b : Nat} (hb : sh b = some (14, 7)) {L : px_L} {t : Nat → Int} (ht : ∀ k, k < 7 → L b k = lI (t k)) (hr : ∀ k, k < 7 → rg (t k)) :
    ∃ L' w g, f_X12_shorten sh L b = some L' ∧ (∀ k, k < 7 → L' b k = lI (w k)) ∧ (∀ a j, a ≠ b → L' a j = L a j) ∧ gF w 7 ≤ 1 ∧ g ≠ 0 ∧ ∀ k, k < 7 → t k = g * w k := by
  have hgr : ∀ k, k ≤ 7 → rg (gF t k) := by
    intro k hk
    induction k with
    | zero => exact rg0
    | succ k ih =>
      have h1 := hr k (by omega)
      have h0 := ih (by omega)
      have d1 : gF t (k + 1) ∣ (t k).natAbs := Nat.gcd_dvd_left _ _
      have d2 : gF t (k + 1) ∣ gF t k := Nat.gcd_dvd_right _ _
      by_cases e : (t k).natAbs = 0
      · have : gF t (k + 1) = gF t k := by
          show Nat.gcd (t k).natAbs (gF t k) = gF t k
          rw [e, Nat.gcd_zero_left]
        rw [this]; exact h0
      · have := Nat.le_of_dvd (by omega) d1
        have := h1.1
        have := h1.2
        exact ⟨by omega, by omega⟩
  have K := lpf_for (σ := Unit) (body := fun a : Int64 × Int32 => f_X12_shorten_5 sh L b a.1 a.2) (fun k _ => (lI (gF t k), nI k)) (fun _ s => s) (fun _ _ => True) (fun _ => lI (gF t 7)) 7
    (fun k _ hk _ => by
      refine ⟨?_, trivial⟩
      show f_X12_shorten_5 sh L b (lI (gF t k)) (nI k) = _
      unfold f_X12_shorten_5
      rw [if_neg (show ¬ 7 ≤ nI k from nI_ge (b := 7) hk (by decide)), ok_t (xk_t hb (ix_k hk (by decide))), nI_clamp (show k < 2 ^ 31 by omega), ht k hk, m_div (hr k hk) (hgr k (by omega)), bd1_e, nI_1]
      rfl)
    (fun _ _ => by
      show f_X12_shorten_5 sh L b (lI (gF t 7)) (nI 7) = _
      unfold f_X12_shorten_5
      rw [if_pos (by decide)]) 7 0 () (by omega) trivial
  have K1 := K.1
  have hg7 := hgr 7 (by omega)
  have hcmp : (lg_cmp (lI (gF t 7)) 1 ≤ 0) ↔ gF t 7 ≤ 1 := by
    rw [lg_cmp_le, Int64.le_iff_toInt_le, lI_t hg7]
    show (gF t 7 : Int) ≤ 1 ↔ _
    omega
  by_cases hd : gF t 7 ≤ 1
  · refine ⟨L, t, 1, ?_, ht, fun _ _ _ => rfl, hd, by decide, fun k _ => by omega⟩
    unfold f_X12_shorten
    rw [show ((0, 0) : Int64 × Int32) = (lI (gF t 0), nI 0) from rfl, K1, bd1_e, lpf_end (body := fun a : Int32 × px_L => f_X12_shorten_30 sh a.2 b (lI (gF t 7)) a.1) (b := L) (by
      show f_X12_shorten_30 sh L b (lI (gF t 7)) 0 = _
      unfold f_X12_shorten_30
      rw [if_neg (by decide), if_pos (hcmp.mpr hd)]), bd1_e]
  · obtain ⟨g, eg⟩ : ∃ g : Int, g = (gF t 7 : Int) := ⟨_, rfl⟩
    have hg0 : g ≠ 0 := by omega
    have hdv : ∀ k, k < 7 → t k = g * (t k).tdiv g := fun k hk => by
      have d : g ∣ t k := Int.natAbs_dvd_natAbs.mp (by rw [eg]; exact gF_dvd t 7 k hk)
      exact (Int.mul_tdiv_cancel' d).symm
    have K2 := lpf_for (body := fun a : Int32 × px_L => f_X12_shorten_30 sh a.2 b (lI g) a.1) (fun k (L' : px_L) => (nI k, L')) (fun k L' => px_u L' b k (lI ((t k).tdiv g))) (fun k L' => (∀ j, j < k → L' b j = lI ((t j).tdiv g)) ∧ (∀ j, k ≤ j → j < 7 → L' b j = lI (t j)) ∧ ∀ a j, a ≠ b → L' a j = L a j) (fun L' => L') 7
      (fun k L' hk hP => by
        obtain ⟨P1, P2, P3⟩ := hP
        refine ⟨?_, fun j hj => ?_, fun j j1 j2 => ?_, fun a j ha => ?_⟩
        · show f_X12_shorten_30 sh L' b (lI g) (nI k) = _
          unfold f_X12_shorten_30
          rw [if_neg (show ¬ 7 ≤ nI k from nI_ge (b := 7) hk (by decide)), eg, if_neg (fun z => hd (hcmp.mp z)), ok_t (xk_t hb (ix_k hk (by decide))), ok_t (lc_nz hg7 (by omega)), nI_clamp (show k < 2 ^ 31 by omega), P2 k (Nat.le_refl _) hk, lI_div (hr k hk) hg7, nm_u, ok_t (xk_t hb (ix_k hk (by decide))), nm_u, nI_1]
        · by_cases e : j = k
          · subst e; exact px_u_in _ _ _ _
          · rw [pu_n (fun z => e z.2)]; exact P1 j (by omega)
        · rw [pu_n (by omega)]; exact P2 j (by omega) j2
        · rw [pu_n (fun z => ha z.1)]; exact P3 a j ha)
      (fun L' _ => by
        show f_X12_shorten_30 sh L' b (lI g) (nI 7) = _
        unfold f_X12_shorten_30
        rw [if_pos (by decide)]) 7 0 L (by omega) ⟨fun j hj => absurd hj (by omega), fun j _ j2 => ht j j2, fun _ _ _ => rfl⟩
    obtain ⟨K3, K4, -, K5⟩ := K2
    refine ⟨_, fun k => (t k).tdiv g, g, ?_, K4, K5, ?_, hg0, hdv⟩
    · unfold f_X12_shorten
      rw [show ((0, 0) : Int64 × Int32) = (lI (gF t 0), nI 0) from rfl, K1, bd1_e, ← eg, show ((0, L) : Int32 × px_L) = (nI 0, L) from rfl, K3, bd1_e]
    · have e1 : gF t 7 = g.natAbs * gF (fun k => (t k).tdiv g) 7 := by
        rw [← gF_mul]
        exact gF_cg 7 hdv
      have e2 : g.natAbs = gF t 7 := by omega
      rw [e2] at e1
      have h0 : 0 < gF t 7 := by omega
      have e3 : gF t 7 * 1 = gF t 7 * gF (fun k => (t k).tdiv g) 7 := by rw [Nat.mul_one]; exact e1
      have := Nat.eq_of_mul_eq_mul_left h0 e3
      omega
