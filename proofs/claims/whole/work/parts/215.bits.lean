/-! bits of small ints -/
theorem nI_inc (j : Nat) : nI j + Int32.ofInt 1 = nI (j + 1) := by rw [show Int32.ofInt 1 = 1 by decide]; exact nI_1 j
theorem sh_l : ∀ t, t < 32 → ((nI t &&& 31).toBitVec.smod 32).toNat = t := by decide
theorem bit1 {s t : Nat} (hs : s < 2 ^ 31) (ht : t < 32) : (nI s >>> (nI t &&& 31)) &&& 1 = nI (s / 2 ^ t % 2) := by
  rw [pk_shrN hs _ t (sh_l t ht)]
  exact pk_andN (k := 1) (by have := Nat.div_le_self s (2 ^ t); omega) (by decide)
theorem tb_iff (s t : Nat) : s.testBit t = true ↔ s / 2 ^ t % 2 = 1 := by
  rw [Nat.testBit_eq_decide_div_mod_eq]
  simp
theorem bit_iff {s t : Nat} (hs : s < 2 ^ 31) (ht : t < 32) : ((nI s >>> (nI t &&& 31)) &&& 1 = 1) ↔ s.testBit t = true := by
  rw [bit1 hs ht, tb_iff, show (1 : Int32) = nI 1 from rfl, nI_eq (by omega) (by decide)]
theorem shl1 : ∀ t, t < 31 → (1 : Int32) <<< (nI t &&& 31) = nI (2 ^ t) := by decide
theorem xorI (a b : Nat) : nI a ^^^ nI b = nI (a ^^^ b) := by
  apply Int32.toBitVec_inj.mp
  show BitVec.ofNat 32 a ^^^ BitVec.ofNat 32 b = BitVec.ofNat 32 (a ^^^ b)
  exact (BitVec.ofNat_xor).symm
theorem andI (a b : Nat) : nI a &&& nI b = nI (a &&& b) := by
  apply Int32.toBitVec_inj.mp
  show BitVec.ofNat 32 a &&& BitVec.ofNat 32 b = BitVec.ofNat 32 (a &&& b)
  exact (BitVec.ofNat_and).symm
theorem orI (a b : Nat) : nI a ||| nI b = nI (a ||| b) := by
  apply Int32.toBitVec_inj.mp
  show BitVec.ofNat 32 a ||| BitVec.ofNat 32 b = BitVec.ofNat 32 (a ||| b)
  exact (BitVec.ofNat_or).symm
theorem and_pow (s t : Nat) : (s &&& 2 ^ t = 0) ↔ s.testBit t = false := by
  constructor
  · intro h
    have h2 := congrArg (fun x => x.testBit t) h
    simpa [Nat.testBit_and, Nat.testBit_two_pow] using h2
  · intro h
    apply Nat.eq_of_testBit_eq
    intro i
    rw [Nat.testBit_and, Nat.testBit_two_pow, Nat.zero_testBit]
    by_cases e : t = i
    · subst e; simp [h]
    · simp [e]
set_option maxRecDepth 100000 in
theorem low0 : (List.range 4096).all (fun u => decide (0 < u → (nI u &&& -nI u = nI (2 ^ tz u) ∧ tz u < 12 ∧ u.testBit (tz u) = true ∧ (List.range (tz u)).all (fun i => !u.testBit i) = true))) = true := by decide +kernel
theorem low_of {u : Nat} (h0 : 0 < u) (h : u < 4096) : nI u &&& -nI u = nI (2 ^ tz u) ∧ tz u < 12 ∧ u.testBit (tz u) = true ∧ ∀ i, i < tz u → u.testBit i = false := by
  obtain ⟨a, b, c, e⟩ := co_dec low0 h h0
  refine ⟨a, b, c, fun i hi => ?_⟩
  have := List.all_eq_true.mp e i (List.mem_range.mpr hi)
  simpa using this
theorem lowIn_iff {s b : Nat} (hs : s < 4096) (hb : b < 4096) : ((nI s &&& (nI s ^^^ nI b)) &&& -(nI s ^^^ nI b) = 0) ↔ ¬ lowIn s b := by
  rw [xorI]
  by_cases e : s = b
  · subst e
    rw [Nat.xor_self]
    refine ⟨fun _ h => ?_, fun _ => ?_⟩
    · obtain ⟨j, -, h1, h2, -⟩ := h
      rw [h1] at h2; cases h2
    · show nI s &&& nI 0 &&& -nI 0 = 0
      rw [andI, Nat.and_zero]; decide
  · have hu : s ^^^ b < 4096 := Nat.xor_lt_two_pow (n := 12) hs hb
    have hu0 : 0 < s ^^^ b := Nat.pos_of_ne_zero fun q => e (Nat.eq_of_testBit_eq fun i => by
      have := congrArg (fun x => x.testBit i) q
      simp only [Nat.testBit_xor, Nat.zero_testBit] at this
      cases h1 : s.testBit i <;> cases h2 : b.testBit i <;> simp_all)
    obtain ⟨h1, h2, h3, h4⟩ := low_of hu0 hu
    rw [Int32.and_assoc, h1, andI, show (0 : Int32) = nI 0 from rfl, nI_eq (Nat.lt_of_le_of_lt Nat.and_le_left (by omega)) (by decide), and_pow]
    have hx : ∀ i, (s ^^^ b).testBit i = (s.testBit i ^^ b.testBit i) := fun i => Nat.testBit_xor _ _ _
    rw [hx] at h3
    constructor
    · rintro hf ⟨j, hj, a1, a2, a3⟩
      rw [hf] at h3
      have hbt : b.testBit (tz (s ^^^ b)) = true := by simpa using h3
      rcases Nat.lt_trichotomy j (tz (s ^^^ b)) with q | q | q
      · have := h4 j q
        rw [hx, a1, a2] at this; cases this
      · rw [← q, a1] at hf; cases hf
      · have := a3 _ q
        rw [hf, hbt] at this; cases this
    · intro hn
      cases hc : s.testBit (tz (s ^^^ b)) with
      | false => rfl
      | true =>
        rw [hc] at h3
        refine absurd ⟨tz (s ^^^ b), h2, hc, by simpa using h3, fun i hi => ?_⟩ hn
        have := h4 i hi
        rw [hx] at this
        cases p1 : s.testBit i <;> cases p2 : b.testBit i <;> simp_all
