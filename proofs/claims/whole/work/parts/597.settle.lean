/-! the class goes through the sets of strings -/
theorem NetS.w {M M' : px_M} {nk nt : Nat} (h : NetS M nk nt) (hM : ∀ c j, ¬ (c = 40 ∧ 9 ≤ j) → M' c j = M c j) : NetS M' nk nt := by
  obtain ⟨h1, h2, h3, h4⟩ := h
  refine ⟨h1, ?_, fun i hi => ?_, fun i hi => ?_⟩
  · rw [hM 40 5 (by omega), hM 40 8 (by omega), hM 73 57 (by omega), hM 73 58 (by omega)]; exact h2
  · unfold KnI
    rw [hM 41 i (by omega), hM 42 i (by omega), hM 43 i (by omega), hM 44 i (by omega), hM 45 i (by omega), hM 192 i (by omega), hM 193 i (by omega), hM 194 i (by omega), hM 195 i (by omega), hM 198 i (by omega)]
    exact h3 i hi
  · unfold StI
    rw [hM 46 i (by omega), hM 47 i (by omega), hM 196 i (by omega), hM 197 i (by omega)]
    exact h4 i hi
theorem nA_w {M M' : px_M} {nk nt : Nat} {dr : Option Nat} (hM : ∀ c j, 192 ≤ c → c ≤ 198 → M' c j = M c j) : nA M' nk nt dr = nA M nk nt dr := by
  have e : ∀ c, 192 ≤ c → c ≤ 198 → M' c = M c := fun c h1 h2 => funext fun j => hM c j h1 h2
  have hw : ∀ s kn ax, wy M' s kn ax = wy M s kn ax := by
    intro s kn ax
    unfold wy
    rw [e 192 (by decide) (by decide), e 193 (by decide) (by decide), e 196 (by decide) (by decide), e 197 (by decide) (by decide)]
  funext x k
  by_cases f : frk M nk (x / 2)
  · have f' : frk M' nk (x / 2) := ⟨f.1, by rw [e 198 (by decide) (by decide)]; exact f.2⟩
    rw [nA_f f, nA_f f', hw]
    have hr : rh M' dr (x / 2) (x % 2) = rh M dr (x / 2) (x % 2) := by
      unfold rh
      cases dr with
      | none => dsimp only; rw [e 194 (by decide) (by decide), e 195 (by decide) (by decide)]
      | some s => dsimp only; rw [hw]
    rw [hr]
  · have f' : ¬ frk M' nk (x / 2) := fun q => f ⟨q.1, by rw [← e 198 (by decide) (by decide)]; exact q.2⟩
    rw [nA_n f, nA_n f']
theorem pow_s : ∀ n, n ≤ 6 → (1 : Int32) <<< (nI n &&& 31) = nI (2 ^ n) := by decide
/-- a balanced set with its forces -/
def BF (A : Nat → Nat → Int) (st : Nat) (x : Nat → Int) (d : Int) : Prop := Bal A (Sx st (cl st).length) ∧ Fo A st x d
theorem BF_pos {A : Nat → Nat → Int} {st : Nat} (hst : st < 64) {x x' : Nat → Int} {d d' : Int} (h : BF A st x d) (h' : BF A st x' d') {t : Nat} (ht : t < 6) : 0 < x t ↔ 0 < x' t := by
  have e := Fo_uq hst h.2 h'.2 ht
  obtain ⟨P, -, -, -, p4, p5⟩ := h.2
  obtain ⟨P', -, -, -, q4, q5⟩ := h'.2
  have a := (p5 t ht).1
  have b := (q5 t ht).1
  constructor
  · intro h
    have := Int.mul_pos h q4
    rw [e] at this
    rcases Int.lt_or_le 0 (x' t) with q | q
    · exact q
    · rw [show x' t = 0 by omega, Int.zero_mul] at this; omega
  · intro h
    have := Int.mul_pos h p4
    rw [← e] at this
    rcases Int.lt_or_le 0 (x t) with q | q
    · exact q
    · rw [show x t = 0 by omega, Int.zero_mul] at this; omega
/-- what the sets below b say: hangs, ease, taut, slack -/
def SeI (A : Nat → Nat → Int) (nt b : Nat) (M : px_M) (L : px_L) : Prop :=
  ((M 40 10 = 0 ∧ ∀ s, s < b → ¬ Bal A (Sx s (cl s).length)) ∨ (M 40 10 = 1 ∧ ∃ ea eb : Int, L 40 13 = lI ea ∧ L 40 14 = lI eb ∧ eaB ea eb ∧ (∃ s x, s < b ∧ BF A s x eb ∧ ea = sN nt x) ∧ ∀ s x d, s < b → BF A s x d → ea * d ≤ sN nt x * eb)) ∧
  (∀ t, t < nt → (((M 40 12 >>> (nI t &&& 31)) &&& 1 = 1) ↔ ∃ s x d, s < b ∧ BF A s x d ∧ 0 < x t)) ∧
  (∀ t, t < nt → (((M 40 11 >>> (nI t &&& 31)) &&& 1 = 1) ↔ ∃ s x d, s < b ∧ BF A s x d ∧ ¬ 0 < x t))
theorem SeI_skip {A : Nat → Nat → Int} {nt b : Nat} {M M' : px_M} {L L' : px_L} (h : SeI A nt b M L) (hb : ¬ Bal A (Sx b (cl b).length)) (h10 : M' 40 10 = M 40 10) (h11 : M' 40 11 = M 40 11) (h12 : M' 40 12 = M 40 12) (h13 : L' 40 13 = L 40 13) (h14 : L' 40 14 = L 40 14) : SeI A nt (b + 1) M' L' := by
  obtain ⟨h1, h2, h3⟩ := h
  have up : ∀ s x d, s < b + 1 → BF A s x d → s < b := by
    intro s x d hs hB
    by_cases e : s = b
    · subst e; exact absurd hB.1 hb
    · omega
  refine ⟨?_, fun t ht => ?_, fun t ht => ?_⟩
  · rw [h10, h13, h14]
    rcases h1 with ⟨a1, a2⟩ | ⟨a1, ea, eb, a2, a3, a4, ⟨s, x, a5, a6, a7⟩, a8⟩
    · refine Or.inl ⟨a1, fun s hs => ?_⟩
      by_cases e : s = b
      · subst e; exact hb
      · exact a2 s (by omega)
    · exact Or.inr ⟨a1, ea, eb, a2, a3, a4, ⟨s, x, by omega, a6, a7⟩, fun s x d hs hB => a8 s x d (up s x d hs hB) hB⟩
  · rw [h12, h2 t ht]
    exact ⟨fun ⟨s, x, d, q1, q2, q3⟩ => ⟨s, x, d, by omega, q2, q3⟩, fun ⟨s, x, d, q1, q2, q3⟩ => ⟨s, x, d, up s x d q1 q2, q2, q3⟩⟩
  · rw [h11, h3 t ht]
    exact ⟨fun ⟨s, x, d, q1, q2, q3⟩ => ⟨s, x, d, by omega, q2, q3⟩, fun ⟨s, x, d, q1, q2, q3⟩ => ⟨s, x, d, up s x d q1 q2, q2, q3⟩⟩
theorem fr_tr {a b c d e f : Int} (hb : 0 < b) (hd : 0 < d) (hf : 0 < f) (h1 : a * d ≤ c * b) (h2 : c * f ≤ e * d) : a * f ≤ e * b := by
  have e1 := Int.mul_le_mul_of_nonneg_right h1 (show 0 ≤ f by omega)
  have e2 := Int.mul_le_mul_of_nonneg_right h2 (show 0 ≤ b by omega)
  have e3 : a * d * f = d * (a * f) := by grind
  have e4 : c * b * f = c * f * b := by grind
  have e5 : e * d * b = d * (e * b) := by grind
  exact Int.le_of_mul_le_mul_left (show d * (a * f) ≤ d * (e * b) by omega) hd
theorem Fo_d {A : Nat → Nat → Int} {st : Nat} {x : Nat → Int} {d : Int} (h : Fo A st x d) : 0 < d := by
  obtain ⟨P, -, -, -, p4, -⟩ := h
  exact p4
theorem SeI_take {A : Nat → Nat → Int} {nt b : Nat} {M M' : px_M} {L L' : px_L} (hnt : nt ≤ 6) (hb64 : b < 64) (h : SeI A nt b M L) (hb : Bal A (Sx b (cl b).length)) {x : Nat → Int} {d : Int} {mk : Int32} (hF : Fo A b x d) (hB : eaB (sN nt x) d) (h10 : M' 40 10 = 1) (h11 : M' 40 11 = M 40 11 ||| (mk ^^^ (-1))) (h12 : M' 40 12 = M 40 12 ||| mk) (hm : ∀ t, t < nt → (((mk >>> (nI t &&& 31)) &&& 1 = 1) ↔ 0 < x t))
    (hL : ∀ ea eb : Int, eaB ea eb → L 40 13 = lI ea → L 40 14 = lI eb → (L' 40 13 = lI (sN nt x) ∧ L' 40 14 = lI d ∧ (M 40 10 = 0 ∨ sN nt x * eb < ea * d)) ∨ (M 40 10 ≠ 0 ∧ L' = L ∧ ea * d ≤ sN nt x * eb)) (hL0 : M 40 10 = 0 → L' 40 13 = lI (sN nt x) ∧ L' 40 14 = lI d) : SeI A nt (b + 1) M' L' := by
  obtain ⟨h1, h2, h3⟩ := h
  have hBF : BF A b x d := ⟨hb, hF⟩
  refine ⟨Or.inr ⟨h10, ?_⟩, fun t ht => ?_, fun t ht => ?_⟩
  · rcases h1 with ⟨a1, a2⟩ | ⟨a1, ea, eb, a2, a3, a4, ⟨s, x1, a5, a6, a7⟩, a8⟩
    · obtain ⟨l1, l2⟩ := hL0 a1
      refine ⟨_, _, l1, l2, hB, ⟨b, x, by omega, hBF, rfl⟩, fun s x' d' hs hB' => ?_⟩
      by_cases e : s = b
      · subst e
        exact Int.le_of_eq (Fo_sum hb64 hF hB'.2 hnt)
      · exact absurd hB'.1 (a2 s (by omega))
    · rcases hL ea eb a4 a2 a3 with ⟨l1, l2, l3⟩ | ⟨l1, l2, l3⟩
      · have l3 := l3.resolve_left (by rw [a1]; decide)
        refine ⟨_, _, l1, l2, hB, ⟨b, x, by omega, hBF, rfl⟩, fun s x' d' hs hB' => ?_⟩
        by_cases e : s = b
        · subst e
          exact Int.le_of_eq (Fo_sum hb64 hF hB'.2 hnt)
        · exact fr_tr hB.2.2.1 a4.2.2.1 (Fo_d hB'.2) (Int.le_of_lt l3) (a8 s x' d' (by omega) hB')
      · rw [l2]
        refine ⟨ea, eb, a2, a3, a4, ⟨s, x1, by omega, a6, a7⟩, fun s x' d' hs hB' => ?_⟩
        by_cases e : s = b
        · subst e
          exact fr_tr a4.2.2.1 hB.2.2.1 (Fo_d hB'.2) l3 (Int.le_of_eq (Fo_sum hb64 hF hB'.2 hnt))
        · exact a8 s x' d' (by omega) hB'
  · rw [h12, b32_or _ _ (show t < 31 by omega), h2 t ht, hm t ht]
    constructor
    · rintro (⟨s, x', d', q1, q2, q3⟩ | q)
      · exact ⟨s, x', d', by omega, q2, q3⟩
      · exact ⟨b, x, d, by omega, hBF, q⟩
    · rintro ⟨s, x', d', q1, q2, q3⟩
      by_cases e : s = b
      · subst e
        exact Or.inr ((BF_pos hb64 hBF q2 (by omega)).mpr q3)
      · exact Or.inl ⟨s, x', d', by omega, q2, q3⟩
  · rw [h11, b32_or _ _ (show t < 31 by omega), h3 t ht, b32_not _ (show t < 31 by omega), hm t ht]
    constructor
    · rintro (⟨s, x', d', q1, q2, q3⟩ | q)
      · exact ⟨s, x', d', by omega, q2, q3⟩
      · exact ⟨b, x, d, by omega, hBF, q⟩
    · rintro ⟨s, x', d', q1, q2, q3⟩
      by_cases e : s = b
      · subst e
        exact Or.inr (fun q => q3 ((BF_pos hb64 hBF q2 (by omega)).mp q))
      · exact Or.inl ⟨s, x', d', by omega, q2, q3⟩
