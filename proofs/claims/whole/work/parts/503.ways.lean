/-! the ways, as the reference searches them -/
def gt (s p k : Nat) : Option Nat := (nxt s (p / 72) k).map fun r => 72 * r + (p % 72 + trn (p / 72)) % 72
def Rc (s p0 : Nat) : Nat → Nat → Prop
  | 0, p => p = p0
  | t + 1, p => ∃ q k, Rc s p0 t q ∧ k < 3 ∧ gt s q k = some p
def hA (an ws D t p : Nat) : Nat := (p % 72 + 72 - (an + ws * (D + t)) % 72) % 72
def Gd (wr ws an D s d t p : Nat) : Prop := Dd wr ws s d (p / 72) (hA an ws D t p)
theorem nxt_b {s r k r' : Nat} (hr : r ≤ 255) (h : nxt s r k = some r') : r' ≤ 255 := by
  unfold nxt at h
  split at h
  · split at h
    · cases h; omega
    · cases h
  · split at h
    · cases h; exact hr
    · split at h
      · cases h; omega
      · cases h
theorem gt_b {s p k q : Nat} (hp : p < 18432) (h : gt s p k = some q) : q < 18432 := by
  unfold gt at h
  rw [Option.map_eq_some_iff] at h
  obtain ⟨r, h1, rfl⟩ := h
  have := nxt_b (by omega) h1
  omega
theorem Rc_b {s p0 : Nat} (h0 : p0 < 18432) : ∀ t p, Rc s p0 t p → p < 18432
  | 0, p, h => by rw [show p = p0 from h]; exact h0
  | t + 1, p, h => by
    obtain ⟨q, k, h1, h2, h3⟩ := h
    exact gt_b (Rc_b h0 t q h1) h3
theorem hA_gt {an ws D t p q r : Nat} (hws : ws ≤ 10) (hq : q = 72 * r + (p % 72 + trn (p / 72)) % 72) : q / 72 = r ∧ hA an ws D (t + 1) q = (hA an ws D t p + trn (p / 72) + 72 - ws) % 72 := by
  have tb := trn_b (p / 72)
  unfold hA
  have e : an + ws * (D + (t + 1)) = an + ws * (D + t) + ws := by rw [← Nat.add_assoc D t 1, Nat.mul_add ws (D + t) 1, Nat.mul_one]; omega
  rw [e]
  obtain ⟨A, hA⟩ : ∃ A, A = an + ws * (D + t) := ⟨_, rfl⟩
  obtain ⟨T, hT⟩ : ∃ T, T = trn (p / 72) := ⟨_, rfl⟩
  rw [← hA, ← hT]
  rw [← hT] at tb hq
  have e1 : q / 72 = r := by omega
  have e2 : q % 72 = (p % 72 + T) % 72 := by omega
  refine ⟨e1, ?_⟩
  rw [e2]
  omega
theorem Gd_succ {wr ws an D s d t p : Nat} (hws : ws ≤ 10) : Gd wr ws an D s (d + 1) t p ↔ ∃ k, k < 3 ∧ ∃ q, gt s p k = some q ∧ Gd wr ws an D s d (t + 1) q := by
  constructor
  · rintro ⟨k, hk, r, h1, h2⟩
    refine ⟨k, hk, 72 * r + (p % 72 + trn (p / 72)) % 72, ?_, ?_⟩
    · unfold gt; rw [h1]; rfl
    · obtain ⟨e1, e2⟩ := hA_gt (an := an) (D := D) (t := t) hws (r := r) (p := p) rfl
      unfold Gd
      rw [e1, e2]; exact h2
  · rintro ⟨k, hk, q, h1, h2⟩
    unfold gt at h1
    rw [Option.map_eq_some_iff] at h1
    obtain ⟨r, h3, h4⟩ := h1
    obtain ⟨e1, e2⟩ := hA_gt (an := an) (D := D) (t := t) hws (r := r) (p := p) h4.symm
    unfold Gd at h2
    rw [e1, e2] at h2
    exact ⟨k, hk, r, h3, h2⟩
theorem Rc_Gd {wr ws an D s p0 : Nat} (hws : ws ≤ 10) : ∀ t d, (∃ p, Rc s p0 t p ∧ Gd wr ws an D s d t p) ↔ Gd wr ws an D s (t + d) 0 p0
  | 0, d => by
    rw [Nat.zero_add]
    constructor
    · rintro ⟨p, h1, h2⟩
      rw [show p = p0 from h1] at h2; exact h2
    · exact fun h => ⟨p0, rfl, h⟩
  | t + 1, d => by
    rw [show t + 1 + d = t + (d + 1) by omega, ← Rc_Gd hws t (d + 1)]
    constructor
    · rintro ⟨p, ⟨q, k, h1, h2, h3⟩, h4⟩
      exact ⟨q, h1, (Gd_succ hws).mpr ⟨k, h2, p, h3, h4⟩⟩
    · rintro ⟨q, h1, h2⟩
      obtain ⟨k, k1, p, k2, k3⟩ := (Gd_succ hws).mp h2
      exact ⟨p, ⟨q, k, h1, k1, k2⟩, k3⟩
def gI (o : Option Nat) : Int32 := match o with | some q => nI q | none => -1
theorem e_turnAt {r a : Nat} (hr : r ≤ 255) (ha : a < 2000) : f_X12_turnAt (nI r) (nI a) = some (nI ((a + trn r) % 72)) := by
  have tb := trn_b r
  unfold f_X12_turnAt
  rw [ok_t (nz32 hr)]
  have e : nI a + 1 + 320 / (nI r + 32) = nI (a + trn r) := by
    unfold trn
    rw [show (32 : Int32) = nI 32 from rfl, nI_add, show (320 : Int32) = nI 320 from rfl, pk_div (by omega) (by omega) (by omega), nI_1, nI_add, Nat.add_assoc]
  rw [e, show (72 : Int32) = nI 72 from rfl, pk_rem (by omega) (by decide) (by decide)]
theorem e_goes {s p k : Nat} (hp : p < 18432) (hs : s ≤ 20) (hk : k < 3) : f_X12_goesTo (nI p / 72) (nI p - nI p / 72 * 72) (nI k) (nI s) = some (gI (gt s p k)) := by
  have hr : p / 72 ≤ 255 := by omega
  have sb := stp_b (r := p / 72) hs
  rw [show (72 : Int32) = nI 72 from rfl, pk_rem (by omega) (by decide) (by decide), pk_div (by omega) (by decide) (by decide)]
  have ta := e_turnAt (a := p % 72) hr (by omega)
  have e30 : ∀ z, z ≤ 255 → f_X12_goesTo_30 (nI (p / 72)) (nI (p % 72)) (nI z) = some (nI (72 * z + (p % 72 + trn (p / 72)) % 72)) := by
    intro z hz
    unfold f_X12_goesTo_30 f_X12_goesTo_60
    rw [if_neg (nI_pos (show z < 2 ^ 31 by omega)), if_pos (show nI z ≤ 255 from nI_le (b := 255) hz (by decide)), ta, bd1_e, show (72 : Int32) = nI 72 from rfl, pk_mul, nI_add]
  unfold f_X12_goesTo gt nxt
  obtain rfl | rfl | rfl : k = 0 ∨ k = 1 ∨ k = 2 := by omega
  · rw [if_neg (show ¬ nI 0 = 1 by decide), if_pos (show nI 0 = 0 from rfl), e_step2 hr hs, bd1_e, if_pos (show 0 = 0 from rfl)]
    by_cases q : stp s (p / 72) ≤ p / 72
    · rw [if_pos q, pk_sub q, e30 _ (by omega)]
      rfl
    · rw [if_neg q]
      unfold f_X12_goesTo_30 f_X12_goesTo_45 f_X12_goesTo_60
      rw [if_pos (pk_sneg (by omega) (by omega))]
      rfl
  · rw [if_pos (show nI 1 = 1 from rfl), if_neg (show ¬ 1 = 0 by decide), if_pos (show 1 = 1 from rfl), e30 _ hr]
    rfl
  · rw [if_neg (show ¬ nI 2 = 1 by decide), if_neg (show ¬ nI 2 = 0 by decide), e_step2 hr hs, bd1_e, if_neg (show ¬ 2 = 0 by decide), if_neg (show ¬ 2 = 1 by decide), nI_add]
    by_cases q : p / 72 + stp s (p / 72) ≤ 255
    · rw [if_pos q, e30 _ q]
      rfl
    · rw [if_neg q]
      unfold f_X12_goesTo_30 f_X12_goesTo_45 f_X12_goesTo_60
      rw [if_neg (nI_pos (show p / 72 + stp s (p / 72) < 2 ^ 31 by omega)), if_neg (show ¬ nI (p / 72 + stp s (p / 72)) ≤ 255 from nI_ge (a := 255) (by omega) (by omega))]
      rfl
theorem am_sub {a b : Nat} (ha : a < 2 ^ 30) (hb : b < 2 ^ 30) : am (nI a - nI b) = nI (if b ≤ a then a - b else b - a) := by
  unfold am
  by_cases q : b ≤ a
  · rw [if_pos q, pk_sub q, if_pos (nI_pos' (by omega))]
  · rw [if_neg q, if_neg (Int32.not_le.mpr (pk_sneg hb (by omega))), ← pk_sub (by omega)]
    grind
theorem e_met {M : px_M} {w wr an ws D t p : Nat} (s : Nat) (hw : w < 4) (hb : wr ≤ 255 ∧ an < 72 ∧ ws ≤ 10) (h90 : M 90 w = nI wr ∧ M 91 w = nI an ∧ M 92 w = nI ws) (hp : p < 18432) (hD : D ≤ 2020) (ht : t ≤ 40) :
    ∃ z, f_X12_isMet M (nI w) (nI p / 72) (nI p - nI p / 72 * 72) (nI D + nI t) = some z ∧ (z = 0 ↔ ¬ Gd wr ws an D s 0 t p) := by
  have hm : ws * (D + t) ≤ 10 * 2060 := Nat.mul_le_mul hb.2.2 (by omega)
  unfold f_X12_isMet f_X12_angleOf f_X12_isMet_46 f_X12_isMet_42 f_X12_isMet_47
  rw [ok_t (ix_k hw (by decide)), ok_t (ix_k hw (by decide)), nI_clamp (by omega), h90.1, h90.2.1, h90.2.2, show (72 : Int32) = nI 72 from rfl, pk_rem (by omega) (by decide) (by decide), pk_div (by omega) (by decide) (by decide), nI_add, pk_mul, nI_add, pk_rem (by omega) (by decide) (by decide), bd1_e, e_amount, am_sub (by omega) (by omega), bd1_e, ok_t (ix_k hw (by decide)), e_amount, am_sub (by omega) (by omega), bd1_e, ok_t zb0, ok_t zb1]
  have key : Gd wr ws an D s 0 t p ↔ (wr ≤ p / 72 + 4 ∧ p / 72 ≤ wr + 4) ∧ (hA an ws D t p ≤ 2 ∨ 70 ≤ hA an ws D t p) := Iff.rfl
  rw [key]
  unfold hA
  obtain ⟨A, hA⟩ : ∃ A, A = an + ws * (D + t) := ⟨_, rfl⟩
  rw [← hA]
  obtain ⟨u, hu⟩ : ∃ u, u = (if p / 72 ≤ wr then wr - p / 72 else p / 72 - wr) := ⟨_, rfl⟩
  obtain ⟨v, hv⟩ : ∃ v, v = (if p % 72 ≤ A % 72 then A % 72 - p % 72 else p % 72 - A % 72) := ⟨_, rfl⟩
  rw [← hu, ← hv]
  have u1 : u < 1000 := by rw [hu]; split <;> omega
  have v1 : v < 1000 := by rw [hv]; split <;> omega
  have u2 : u ≤ 4 ↔ (wr ≤ p / 72 + 4 ∧ p / 72 ≤ wr + 4) := by rw [hu]; split <;> omega
  have v2 : (v ≤ 2 ∨ 70 ≤ v) ↔ ((p % 72 + 72 - A % 72) % 72 ≤ 2 ∨ 70 ≤ (p % 72 + 72 - A % 72) % 72) := by rw [hv]; split <;> omega
  rw [← u2, ← v2]
  rw [show (4 : Int32) = nI 4 from rfl, show (2 : Int32) = nI 2 from rfl, show (70 : Int32) = nI 70 from rfl, ifi (nI_ltI (by decide) (by omega)), ifi (nI_leI (by omega) (by decide)), ifi (nI_ltI (by omega) (by decide))]
  by_cases q1 : 4 < u
  · exact ⟨0, by rw [if_pos q1], by simp; omega⟩
  · by_cases q2 : v ≤ 2
    · exact ⟨1, by rw [if_neg q1, if_pos q2], by simp; omega⟩
    · by_cases q3 : v < 70
      · exact ⟨0, by rw [if_neg q1, if_neg q2, if_pos q3], by simp; omega⟩
      · exact ⟨1, by rw [if_neg q1, if_neg q2, if_neg q3], by simp; omega⟩
