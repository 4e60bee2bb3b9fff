/-! the first rule that holds -/
/-- where rule i's code begins -/
def bgn (E : Nat → Nat) (i : Nat) : Nat := if i = 0 then 0 else E (i - 1)
def hldC (vals code : Nat → Int32) (E : Nat → Nat) (i : Nat) : Prop := runC vals code (bgn E i) (E i - bgn E i) = [1]
section FIRST
variable {sh : px_Sh} {M : px_M} {R : px_R} {A b0 b1 b3 nr : Nat} {E : Nat → Nat}
theorem c_firstH (hA : sh A = some (7, 0)) (r0 : R A 0 = some b0) (r1 : R A 1 = some b1) (r3 : R A 3 = some b3) (s0 : sh b0 = some (13, 300)) (s1 : sh b1 = some (13, 16)) (s3 : sh b3 = some (13, 32)) (n0 : b0 ≠ b3) (n1 : b1 ≠ b3) (nA : A ≠ b3) (n19 : (19 : Nat) ≠ b3) (hnr : nr ≤ 16) (h5 : M A 5 = nI nr) (hE : ∀ i, i < nr → M b1 i = nI (E i) ∧ bgn E i ≤ E i ∧ E i ≤ 300) :
    ∃ z M', f_X7_firstHolding sh M R A = some (z, M') ∧ (∀ c j, c ≠ b3 → M' c j = M c j) ∧ ((z = -1 ∧ ∀ i, i < nr → ¬ hldC (M 19) (M b0) E i) ∨ ∃ i, i < nr ∧ z = nI i ∧ hldC (M 19) (M b0) E i ∧ ∀ j, j < i → ¬ hldC (M 19) (M b0) E j) := by
  have loop : ∀ (m i : Nat) (Mx : px_M), i + m = nr → (∀ c j, c ≠ b3 → Mx c j = M c j) → (∀ j, j < i → ¬ hldC (M 19) (M b0) E j) →
      ∃ z M', bdS (lpf (fun a : Int32 × px_M => f_X7_firstHolding_2 sh a.2 R A a.1) (nI i, Mx)) (fun t => some (t.1, t.2)) (fun u => some ((-1), u)) = some (z, M') ∧ (∀ c j, c ≠ b3 → M' c j = M c j) ∧ ((z = -1 ∧ ∀ i, i < nr → ¬ hldC (M 19) (M b0) E i) ∨ ∃ i, i < nr ∧ z = nI i ∧ hldC (M 19) (M b0) E i ∧ ∀ j, j < i → ¬ hldC (M 19) (M b0) E j) := by
    intro m
    induction m with
    | zero =>
      intro i Mx hi hM hn
      obtain rfl : i = nr := by omega
      refine ⟨-1, Mx, ?_, hM, Or.inl ⟨rfl, hn⟩⟩
      apply bdS_r
      apply lpf_end
      show f_X7_firstHolding_2 sh Mx R A (nI i) = _
      unfold f_X7_firstHolding_2
      rw [ok_t (hk_t hA), hM A 5 nA, h5, if_pos (Int32.le_refl _)]
    | succ m ih =>
      intro i Mx hi hM hn
      obtain ⟨e1, e2, e3⟩ := hE i (by omega)
      obtain ⟨My, g1, g2⟩ := c_holds (M := Mx) hA r0 r3 s0 s3 n0 n19 (p := bgn E i) (m := E i - bgn E i) (by omega)
      have e19 : Mx 19 = M 19 := funext fun j => hM 19 j n19
      have eb0 : Mx b0 = M b0 := funext fun j => hM b0 j n0
      rw [e19, eb0, show bgn E i + (E i - bgn E i) = E i by omega] at g1
      have h27 : f_X7_firstHolding_27 sh Mx R A (nI i) (nI (bgn E i)) A = if bI (runC (M 19) (M b0) (bgn E i) (E i - bgn E i) = [1]) = 0 then some (.inl (nI (i + 1), My)) else some (.inr (.inl (nI i, My))) := by
        unfold f_X7_firstHolding_27
        rw [ok_t (hk_t hA), r1, bd1_e, ok_t (xk_t s1 (ix_k (show i < 16 by omega) (by decide))), ok_t (hk_t hA), nI_clamp (show i < 2 ^ 31 by omega), hM b1 i n1, e1, g1, bd1_e, nI_1]
      have hb : f_X7_firstHolding_2 sh Mx R A (nI i) = f_X7_firstHolding_27 sh Mx R A (nI i) (nI (bgn E i)) A := by
        unfold f_X7_firstHolding_2
        rw [ok_t (hk_t hA), hM A 5 nA, h5, if_neg (nI_ge (by omega) (by omega))]
        by_cases q : i = 0
        · subst q
          rw [if_pos (show nI 0 = 0 from rfl)]
          rfl
        · have e4 : nI i - 1 = nI (i - 1) := pk_sub (b := 1) (by omega)
          rw [if_neg (show ¬ nI i = 0 from nI_eq' (b := 0) (by omega) (by decide) q), ok_t (hk_t hA), r1, bd1_e, e4, nm_u, ok_t (xk_t s1 (ix_k (show i - 1 < 16 by omega) (by decide))), nI_clamp (show i - 1 < 2 ^ 31 by omega), hM b1 _ n1, (hE (i - 1) (by omega)).1]
          unfold bgn
          rw [if_neg q]
      rw [h27] at hb
      have hM2 : ∀ c j, c ≠ b3 → My c j = M c j := fun c j hc => (g2 c j hc).trans (hM c j hc)
      by_cases q : hldC (M 19) (M b0) E i
      · rw [bI_t (show runC (M 19) (M b0) (bgn E i) (E i - bgn E i) = [1] from q), if_neg (by decide)] at hb
        refine ⟨nI i, My, ?_, hM2, Or.inr ⟨i, by omega, rfl, q, hn⟩⟩
        rw [bdS_l (lpf_end (body := fun a : Int32 × px_M => f_X7_firstHolding_2 sh a.2 R A a.1) (a := (nI i, Mx)) hb)]
      · rw [bI_f (show ¬ runC (M 19) (M b0) (bgn E i) (E i - bgn E i) = [1] from q), if_pos rfl] at hb
        rw [lpf_go (body := fun a : Int32 × px_M => f_X7_firstHolding_2 sh a.2 R A a.1) (a := (nI i, Mx)) hb]
        exact ih (i + 1) My (by omega) hM2 (fun j hj => by
          by_cases e : j = i
          · rw [e]; exact q
          · exact hn j (by omega))
  exact loop nr 0 M (by omega) (fun _ _ _ => rfl) (fun j hj => absurd hj (by omega))
end FIRST
