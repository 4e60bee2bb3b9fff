/-! the functions without the machine: small ones as values, and frames -/
def bI (p : Prop) [Decidable p] : Int32 := if p then 1 else 0
theorem bI_0 {p : Prop} [Decidable p] : bI p = 0 ↔ ¬ p := by
  unfold bI
  split
  next h => exact ⟨fun q => absurd q (by decide), fun q => absurd h q⟩
  next h => exact ⟨fun _ => h, fun _ => rfl⟩
theorem bI_z {p : Prop} [Decidable p] : zb (bI p) = true := by
  unfold bI
  split <;> rfl
theorem bI_t {p : Prop} [Decidable p] (h : p) : bI p = 1 := if_pos h
theorem bI_f {p : Prop} [Decidable p] (h : ¬ p) : bI p = 0 := if_neg h
theorem zb0 : zb 0 = true := rfl
theorem zb1 : zb 1 = true := rfl
theorem ok_y {α : Type} {A : Option α} : ok true A = A := rfl
theorem nm_u {α β : Type} (x : α) (f : α → Option β) : nm x f = f x := rfl
theorem bd1_e {α β : Type} (a : α) (f : α → Option β) : bd1 (some a) f = f a := rfl
theorem e_within (v lo hi : Int32) : f_X11_within v lo hi = some (bI (lo ≤ v ∧ v ≤ hi)) := by
  unfold f_X11_within f_X11_within_14 f_X11_within_15
  by_cases h1 : v < lo
  · rw [if_pos h1, bI_f (fun q => Int32.not_le.mpr h1 q.1)]; rfl
  · rw [if_neg h1]
    by_cases h2 : hi < v
    · rw [if_pos h2, bI_f (fun q => Int32.not_le.mpr h2 q.2)]; rfl
    · rw [if_neg h2, bI_t ⟨Int32.not_lt.mp h1, Int32.not_lt.mp h2⟩]; rfl
theorem e_in (v lo hi : Int32) : f_X12_in v lo hi = some (bI (lo ≤ v ∧ v ≤ hi)) := by
  unfold f_X12_in f_X12_in_14 f_X12_in_15
  by_cases h1 : v < lo
  · rw [if_pos h1, bI_f (fun q => Int32.not_le.mpr h1 q.1)]; rfl
  · rw [if_neg h1]
    by_cases h2 : hi < v
    · rw [if_pos h2, bI_f (fun q => Int32.not_le.mpr h2 q.2)]; rfl
    · rw [if_neg h2, bI_t ⟨Int32.not_lt.mp h1, Int32.not_lt.mp h2⟩]; rfl
def am (x : Int32) : Int32 := if 0 ≤ x then x else -x
theorem e_amount (x : Int32) : f_X12_amount x = some (am x) := by
  unfold f_X12_amount f_X12_amount_10 am
  split <;> rfl
theorem e_abs (x : Int32) : f_J9_abs_0f7a4 x = some (am x) := by
  unfold f_J9_abs_0f7a4 f_J9_abs_0f7a4_10 am
  split <;> rfl
theorem e_isSpot (x y : Int32) : f_X11_isSpot x y = some (bI ((-20 ≤ x ∧ x ≤ 20) ∧ (-20 ≤ y ∧ y ≤ 20))) := by
  unfold f_X11_isSpot f_X11_isSpot_26 f_X11_isSpot_27
  rw [e_within, bd1_e, e_within, bd1_e]
  by_cases h1 : -20 ≤ x ∧ x ≤ 20
  · rw [bI_t h1, if_neg (by decide)]
    by_cases h2 : -20 ≤ y ∧ y ≤ 20
    · rw [bI_t h2, bI_t ⟨h1, h2⟩]; rfl
    · rw [bI_f h2, if_pos rfl, bI_f (fun q => h2 q.2)]; rfl
  · rw [bI_f h1, if_pos rfl, bI_f (fun q => h1 q.1)]; rfl
theorem e_isSlant (x : Int32) : f_X11_isSlant x = some (bI (-8 ≤ x ∧ x ≤ 8)) := by
  unfold f_X11_isSlant
  rw [e_within, bd1_e, ok_t bI_z]
theorem e_isCoat (b k : Int32) : f_X11_isCoat b k = some (bI ((0 ≤ b ∧ b ≤ 100) ∧ (0 ≤ k ∧ k ≤ 100) ∧ b + k ≤ 100)) := by
  unfold f_X11_isCoat f_X11_isCoat_32 f_X11_isCoat_33
  rw [e_within, bd1_e, e_within, bd1_e]
  by_cases h1 : 0 ≤ b ∧ b ≤ 100
  · rw [bI_t h1, if_neg (by decide)]
    by_cases h2 : 0 ≤ k ∧ k ≤ 100
    · rw [bI_t h2, if_neg (by decide)]
      by_cases h3 : 100 < b + k
      · rw [if_pos h3, bI_f (fun q => Int32.not_le.mpr h3 q.2.2)]; rfl
      · rw [if_neg h3, bI_t ⟨h1, h2, Int32.not_lt.mp h3⟩]; rfl
    · rw [bI_f h2, if_pos rfl, bI_f (fun q => h2 q.2.1)]; rfl
  · rw [bI_f h1, if_pos rfl, bI_f (fun q => h1 q.1)]; rfl
/-- bad(is, what) while nothing is thrown yet -/
theorem e_bad_f {M : px_M} (h : M 73 0 = 0) (k : Int32) : f_X12_bad M 0 k = some (0, M) := by
  unfold f_X12_bad f_X12_bad_16 f_X12_bad_28
  rw [if_pos rfl, if_pos h]; rfl
theorem e_bad_t {M : px_M} (h : M 73 0 = 0) {k : Int32} (hk : ¬ k = 0) : f_X12_bad M 1 k = some (1, px_u M 73 0 k) := by
  unfold f_X12_bad f_X12_bad_16 f_X12_bad_28
  rw [if_neg (by decide), if_pos h, nm_u, if_neg (by rw [px_u_in]; exact hk)]; rfl
/-! frames -/
/-- M' is M but at the places S -/
def chg (S : Nat → Nat → Prop) (M M' : px_M) : Prop := ∀ c j, ¬ S c j → M' c j = M c j
theorem chg.rf {S : Nat → Nat → Prop} {M : px_M} : chg S M M := fun _ _ _ => rfl
theorem chg.tr {S : Nat → Nat → Prop} {M M' M'' : px_M} (h : chg S M M') (h2 : chg S M' M'') : chg S M M'' := fun c j q => (h2 c j q).trans (h c j q)
theorem chg.u {S : Nat → Nat → Prop} {M M' : px_M} (h : chg S M M') {c j : Nat} {v : Int32} (q : S c j) : chg S M (px_u M' c j v) := by
  intro a b hn
  by_cases e : a = c ∧ b = j
  · rw [e.1, e.2] at hn
    exact absurd q hn
  · exact (if_neg e).trans (h a b hn)
theorem chg.mono {S T : Nat → Nat → Prop} {M M' : px_M} (h : chg S M M') (hs : ∀ c j, S c j → T c j) : chg T M M' := fun c j q => h c j fun r => q (hs c j r)
theorem pu_n {α : Type} {f : Nat → Nat → α} {c j : Nat} {v : α} {a b : Nat} (h : ¬ (a = c ∧ b = j)) : px_u f c j v a b = f a b := if_neg h
theorem ix_ok {k n : Nat} (h : k < n) (hn : n < 2 ^ 31) : ix (nI k) n = true := ix_k h hn
theorem nI_12 {k : Nat} (h : k ≤ 12) : nI k = 12 ↔ k = 12 := nI_eq (b := 12) (by omega) (by decide)
