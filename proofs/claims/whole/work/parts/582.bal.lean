/-! a set of strings balances: for all pivots alike; long numbers as integers -/
def lI (v : Int) : Int64 := Int64.ofInt v
def rg (v : Int) : Prop := -9223372036854775807 ≤ v ∧ v ≤ 9223372036854775807
theorem rg_n {v : Int} {B : Nat} (h : v.natAbs ≤ B) (hB : B ≤ 9223372036854775807) : rg v := ⟨by omega, by omega⟩
theorem lI_t {v : Int} (h : rg v) : (lI v).toInt = v := Int64.toInt_ofInt_of_le (by have := h.1; omega) (by have := h.2; omega)
theorem lI_ms (a b c d : Int) : lI a * lI b - lI c * lI d = lI (a * b - c * d) := by unfold lI; rw [Int64.ofInt_sub, Int64.ofInt_mul, Int64.ofInt_mul]
theorem lI_mul (a b : Int) : lI a * lI b = lI (a * b) := (Int64.ofInt_mul a b).symm
theorem lI_add (a b : Int) : lI a + lI b = lI (a + b) := (Int64.ofInt_add a b).symm
theorem lI_sub (a b : Int) : lI a - lI b = lI (a - b) := (Int64.ofInt_sub a b).symm
theorem lI_neg (a : Int) : -lI a = lI (-a) := (Int64.ofInt_neg a).symm
theorem lI_div {a b : Int} (ha : rg a) (hb : rg b) : lI a / lI b = lI (a.tdiv b) := by
  apply Int64.toInt_inj.mp
  have ht : (lI a / lI b).toInt = a.tdiv b := by
    rw [Int64.toInt_div_of_ne_left _ _ (fun z => by
      have e : (lI a).toInt = -9223372036854775808 := by rw [z]; rfl
      rw [lI_t ha] at e
      have := ha.1
      omega), lI_t ha, lI_t hb]
  rw [ht]
  refine (lI_t ?_).symm
  have h1 := Int.natAbs_tdiv_le_natAbs a b
  have := ha.1
  have := ha.2
  exact ⟨by omega, by omega⟩
theorem lI_eq {a b : Int} (ha : rg a) (hb : rg b) : lI a = lI b ↔ a = b := ⟨fun h => by rw [← lI_t ha, h, lI_t hb], fun h => by rw [h]⟩
theorem rg0 : rg 0 := ⟨by decide, by decide⟩
theorem rg1 : rg 1 := ⟨by decide, by decide⟩
theorem lc_0 {a : Int} (ha : rg a) : (lg_cmp (lI a) 0 = 0) ↔ a = 0 := (lg_cmp_eq _ _).trans (lI_eq ha rg0)
theorem lc_le {a : Int} (ha : rg a) : (lg_cmp (lI a) 0 ≤ 0) ↔ a ≤ 0 := by
  rw [lg_cmp_le, Int64.le_iff_toInt_le, lI_t ha]
  rfl
theorem lc_ge {a : Int} (ha : rg a) : (0 ≤ lg_cmp (lI a) 0) ↔ 0 ≤ a := by
  rw [lg_cmp_ge, Int64.le_iff_toInt_le, lI_t ha]
  rfl
theorem lc_nz {a : Int} (ha : rg a) (h : a ≠ 0) : nz (lI a) 0 = true := nz_t (fun z => h ((lI_eq ha rg0).mp z))
section BAL
variable (A : Nat → Nat → Int)
/-- the strings S balance: independent, and one stand that only pulls -/
def Bal (S : List Nat) : Prop := ∃ P, PC A P S ∧ (∀ r, r ∈ P → r < 12) ∧ (∀ r, r < 12 → dt A (6 :: S) (r :: P) = 0) ∧ ∀ j, j < S.length → 0 ≤ Uj A S P j 6 * dt A S P
theorem sgn_tr {a b c d : Int} (hb : b ≠ 0) (hd : d ≠ 0) (e : b * c = a * d) (h : 0 ≤ a * b) : 0 ≤ c * d := by
  have h1 : 0 ≤ (c * d) * (b * b) := by
    have e2 : (c * d) * (b * b) = (a * b) * (d * d) := by
      have : (b * c) * (b * d) = (a * d) * (b * d) := by rw [e]
      grind
    rw [e2]
    refine Int.mul_nonneg h (Int.le_of_lt ?_)
    rcases Int.lt_or_gt_of_ne hd with q | q
    · exact Int.mul_pos_of_neg_of_neg q q
    · exact Int.mul_pos q q
  have h2 : 0 < b * b := by
    rcases Int.lt_or_gt_of_ne hb with q | q
    · exact Int.mul_pos_of_neg_of_neg q q
    · exact Int.mul_pos q q
  exact Int.le_of_mul_le_mul_right (by rw [Int.zero_mul]; exact h1) h2
theorem Bal_iff {P S : List Nat} (hp : PC A P S) (hP : ∀ r, r ∈ P → r < 12) : Bal A S ↔ (∀ r, r < 12 → dt A (6 :: S) (r :: P) = 0) ∧ ∀ j, j < S.length → 0 ≤ Uj A S P j 6 * dt A S P := by
  constructor
  · rintro ⟨P', q1, q2, q3, q4⟩
    have h1 := piv_dep A q1 hp hP q3
    refine ⟨h1, fun j hj => ?_⟩
    have e := piv_val A q1 hp hP q3 hj
    exact sgn_tr (PC_d A q1) (PC_d A hp) e (q4 j hj)
  · rintro ⟨q1, q2⟩
    exact ⟨P, hp, hP, q1, q2⟩
/-- pivots for more strings are pivots for fewer -/
theorem PC_tail : ∀ (S1 : List Nat) {S P : List Nat}, PC A P (S1 ++ S) → ∃ P1 P2, P = P1 ++ P2 ∧ PC A P2 S
  | [], S, P, h => ⟨[], P, rfl, h⟩
  | s :: S1, S, [], h => absurd h (by simp [PC])
  | s :: S1, S, c :: P, h => by
    obtain ⟨P1, P2, e, h2⟩ := PC_tail S1 h.1
    exact ⟨c :: P1, P2, by rw [e]; rfl, h2⟩
/-- a column that hangs on those before it: no pivots at all -/
theorem Bal_stuck {P S S1 : List Nat} {s : Nat} (hp : PC A P S) (h : ∀ r, r < 12 → dt A (s :: S) (r :: P) = 0) : ¬ Bal A (S1 ++ s :: S) := by
  rintro ⟨P', q1, q2, -⟩
  obtain ⟨P1, P2, e, q5⟩ := PC_tail A S1 q1
  match P2, q5, e with
  | [], q5, _ => exact absurd q5 (by simp [PC])
  | c :: P3, q5, e =>
    obtain ⟨q6, q7⟩ := q5
    have := piv_dep A hp q6 (fun r hr => q2 r (by rw [e]; simp [hr])) h c (q2 c (by rw [e]; simp))
    exact q7 this
/-- a row of nothing leaves nothing -/
theorem W_zero {P S : List Nat} (hp : PC A P S) {r : Nat} (hr : ∀ k, A r k = 0) (k : Nat) : dt A (k :: S) (r :: P) = 0 := by
  obtain ⟨v', e1, e2⟩ := dt_row A S r P
  have h1 : sp A P (fun k => dt A (k :: S) (r :: P)) := sp_congr A (fun k => by rw [e2 k, hr k, Int.mul_zero, Int.zero_add]) e1
  exact uq A hp h1 (fun s hs => dt_rep A S _ hs) k
end BAL
