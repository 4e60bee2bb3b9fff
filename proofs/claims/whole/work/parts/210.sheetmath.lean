/-! sheets of offers: sums over sets, the best set, the Gray code -/
def sm (f : Nat → Int32) (s : Nat) : Nat → Int32
  | 0 => 0
  | j + 1 => sm f s j + if s.testBit j then f j else 0
theorem sm_flip (f : Nat → Int32) (s j : Nat) : ∀ k, sm f (s ^^^ 2 ^ j) k = if j < k then sm f s k + (if s.testBit j then -f j else f j) else sm f s k
  | 0 => by simp [sm]
  | k + 1 => by
    have ih := sm_flip f s j k
    have hb : (s ^^^ 2 ^ j).testBit k = (s.testBit k ^^ decide (j = k)) := by rw [Nat.testBit_xor, Nat.testBit_two_pow]
    rw [sm, sm, ih, hb]
    by_cases e : j = k
    · subst e
      simp only [Nat.lt_irrefl, if_false, decide_true, Nat.lt_succ_self, if_true]
      cases s.testBit j <;> simp
      grind
    · by_cases h : j < k
      · have h2 : j < k + 1 := by omega
        simp only [h, h2, if_true, e, decide_false, Bool.xor_false]
        grind
      · have h2 : ¬ j < k + 1 := by omega
        simp only [h, h2, if_false, e, decide_false, Bool.xor_false]
def gr (i : Nat) : Nat := i ^^^ (i >>> 1)
def gi (s : Nat) : Nat := s ^^^ (s >>> 1) ^^^ (s >>> 2) ^^^ (s >>> 3) ^^^ (s >>> 4) ^^^ (s >>> 5) ^^^ (s >>> 6) ^^^ (s >>> 7) ^^^ (s >>> 8) ^^^ (s >>> 9) ^^^ (s >>> 10) ^^^ (s >>> 11)
def tzF : Nat → Nat → Nat
  | 0, _ => 0
  | f + 1, i => if i % 2 = 1 then 0 else tzF f (i / 2) + 1
def tz (i : Nat) : Nat := tzF 12 i
set_option maxRecDepth 100000 in
theorem gr_step0 : (List.range 4096).all (fun i => decide (0 < i → ((nI i ^^^ (-1)) &&& (nI i - 1) = nI (2 ^ tz i - 1) ∧ tz i < 12 ∧ gr i = gr (i - 1) ^^^ 2 ^ tz i ∧ 2 ^ tz i ≤ i))) = true := by decide +kernel
theorem gr_step {i : Nat} (h0 : 0 < i) (h : i < 4096) : (nI i ^^^ (-1)) &&& (nI i - 1) = nI (2 ^ tz i - 1) ∧ tz i < 12 ∧ gr i = gr (i - 1) ^^^ 2 ^ tz i ∧ 2 ^ tz i ≤ i := co_dec gr_step0 h h0
set_option maxRecDepth 100000 in
theorem gr_inv0 : (List.range 4096).all (fun s => decide (gr (gi s) = s)) = true := by decide +kernel
theorem gr_inv {s : Nat} (h : s < 4096) : gr (gi s) = s := co_dec (P := fun s => gr (gi s) = s) gr_inv0 h
theorem shr_lt {s k : Nat} (i : Nat) (h : s < 2 ^ k) : s >>> i < 2 ^ k := Nat.lt_of_le_of_lt (Nat.shiftRight_le s i) h
theorem gr_lt {i k : Nat} (h : i < 2 ^ k) : gr i < 2 ^ k := Nat.xor_lt_two_pow h (shr_lt 1 h)
theorem gi_lt {s k : Nat} (h : s < 2 ^ k) : gi s < 2 ^ k := by
  unfold gi
  exact Nat.xor_lt_two_pow (Nat.xor_lt_two_pow (Nat.xor_lt_two_pow (Nat.xor_lt_two_pow (Nat.xor_lt_two_pow (Nat.xor_lt_two_pow (Nat.xor_lt_two_pow (Nat.xor_lt_two_pow (Nat.xor_lt_two_pow (Nat.xor_lt_two_pow (Nat.xor_lt_two_pow h (shr_lt _ h)) (shr_lt _ h)) (shr_lt _ h)) (shr_lt _ h)) (shr_lt _ h)) (shr_lt _ h)) (shr_lt _ h)) (shr_lt _ h)) (shr_lt _ h)) (shr_lt _ h)) (shr_lt _ h)
/-- the first place where two sets differ is in a -/
def lowIn (a b : Nat) : Prop := ∃ j, j < 12 ∧ a.testBit j = true ∧ b.testBit j = false ∧ ∀ i, i < j → a.testBit i = b.testBit i
/-- a is ahead of b: more gain; as much, and less cost; as much of both, and it has the first offer that they don't share -/
def ahead (g c : Nat → Int32) (a b : Nat) : Prop := g b < g a ∨ (g a = g b ∧ (c a < c b ∨ (c a = c b ∧ lowIn a b)))
theorem lowIn_tri {a b : Nat} (ha : a < 4096) (hb : b < 4096) (h : a ≠ b) : lowIn a b ∨ lowIn b a := by
  have hex : ∃ i, i < 12 ∧ a.testBit i ≠ b.testBit i := by
    refine Classical.byContradiction fun q => h (Nat.eq_of_testBit_eq fun i => ?_)
    rcases Nat.lt_or_ge i 12 with hi | hi
    · exact Classical.byContradiction fun q2 => q ⟨i, hi, q2⟩
    · have h12 : (2 : Nat) ^ 12 ≤ 2 ^ i := Nat.pow_le_pow_right (by decide) hi
      rw [Nat.testBit_lt_two_pow (Nat.lt_of_lt_of_le (show a < 2 ^ 12 from ha) h12), Nat.testBit_lt_two_pow (Nat.lt_of_lt_of_le (show b < 2 ^ 12 from hb) h12)]
  obtain ⟨i, ⟨hi, hd⟩, hmin⟩ := pk_least (fun i => i < 12 ∧ a.testBit i ≠ b.testBit i) hex
  have hsame : ∀ j, j < i → a.testBit j = b.testBit j := fun j hj => Classical.byContradiction fun q => hmin j hj ⟨by omega, q⟩
  cases e1 : a.testBit i <;> cases e2 : b.testBit i
  · rw [e1, e2] at hd; exact absurd rfl hd
  · exact Or.inr ⟨i, hi, e2, e1, fun j hj => (hsame j hj).symm⟩
  · exact Or.inl ⟨i, hi, e1, e2, hsame⟩
  · rw [e1, e2] at hd; exact absurd rfl hd
theorem ahead_tri {g c : Nat → Int32} {a b : Nat} (ha : a < 4096) (hb : b < 4096) (h : a ≠ b) : ahead g c a b ∨ ahead g c b a := by
  rcases Int32.lt_or_lt_of_ne (a := g a) (b := g b) |> fun f => Classical.em (g a = g b) |>.elim (fun e => Or.inl e) (fun e => Or.inr (f e)) with e | e | e
  · rcases Classical.em (c a = c b) with e2 | e2
    · rcases lowIn_tri ha hb h with h2 | h2
      · exact Or.inl (Or.inr ⟨e, Or.inr ⟨e2, h2⟩⟩)
      · exact Or.inr (Or.inr ⟨e.symm, Or.inr ⟨e2.symm, h2⟩⟩)
    · rcases Int32.lt_or_lt_of_ne e2 with h2 | h2
      · exact Or.inl (Or.inr ⟨e, Or.inl h2⟩)
      · exact Or.inr (Or.inr ⟨e.symm, Or.inl h2⟩)
  · exact Or.inr (Or.inl e)
  · exact Or.inl (Or.inl e)
/-- the best of the sets that may be -/
def bestSet (g c : Nat → Int32) (ok : Nat → Prop) (N b : Nat) : Prop := b < N ∧ (b = 0 ∨ ok b) ∧ ∀ s, s < N → (s = 0 ∨ ok s) → ¬ ahead g c s b
theorem bestSet_one {g c : Nat → Int32} {ok : Nat → Prop} {N a b : Nat} (hN : N ≤ 4096) (ha : bestSet g c ok N a) (hb : bestSet g c ok N b) : a = b := by
  refine Classical.byContradiction fun h => ?_
  rcases ahead_tri (g := g) (c := c) (Nat.lt_of_lt_of_le ha.1 hN) (Nat.lt_of_lt_of_le hb.1 hN) h with q | q
  · exact hb.2.2 a ha.1 ha.2.1 q
  · exact ha.2.2 b hb.1 hb.2.1 q
