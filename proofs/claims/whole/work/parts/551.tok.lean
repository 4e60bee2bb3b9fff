/-! the class works a code -/
section TOK
variable {sh : px_Sh} {M : px_M} {R : px_R} {A b0 b3 : Nat}
theorem c_tok (hA : sh A = some (7, 0)) (r0 : R A 0 = some b0) (r3 : R A 3 = some b3) (s0 : sh b0 = some (13, 300)) (s3 : sh b3 = some (13, 32)) {q k : Nat} (hq : q ≤ 300) (hk : k < q) {Mx : px_M} {S : List Int32} (hS : StkI Mx b3 S) :
    ∃ M', f_X7_holds_6 sh Mx R A (nI q) (nI S.length) (nI k) = some (.inl (nI (tok (Mx 19) (Mx b0 k) S).length, nI (k + 1), M')) ∧ StkI M' b3 (tok (Mx 19) (Mx b0 k) S) ∧ ∀ c j, c ≠ b3 → M' c j = Mx c j := by
  have hl := hS.1
  obtain ⟨t, ht⟩ : ∃ t, t = Mx b0 k := ⟨_, rfl⟩
  have start : f_X7_holds_6 sh Mx R A (nI q) (nI S.length) (nI k) = if 0 < -t then f_X7_holds_32 sh Mx R A (nI q) (nI S.length) (nI k) (-t) 0 else f_X7_holds_32 sh Mx R A (nI q) (nI S.length) (nI k) (-t) 1 := by
    unfold f_X7_holds_6
    rw [if_neg (nI_ge hk (by omega)), ok_t (hk_t hA), r0, bd1_e, ok_t (xk_t s0 (ix_k (show k < 300 by omega) (by decide))), nI_clamp (show k < 2 ^ 31 by omega), ← ht, nm_u]
  have le32 : (32 ≤ nI S.length) ↔ 32 ≤ S.length := nI_leI (a := 32) (by decide) (by omega)
  have push : ∀ (x7 v : Int32), (x7 = 0 → (∃ j, j < 7 ∧ -t - 307 = nI j ∧ Mx 19 j = v)) → (¬ x7 = 0 → v = t) → ∃ M', f_X7_holds_60 sh Mx R A (nI q) (nI S.length) (nI k) (-t) x7 = some (.inl (nI (if 32 ≤ S.length then S else S ++ [v]).length, nI (k + 1), M')) ∧ StkI M' b3 (if 32 ≤ S.length then S else S ++ [v]) ∧ ∀ c j, c ≠ b3 → M' c j = Mx c j := by
    intro x7 v h0 h1
    unfold f_X7_holds_60 f_X7_holds_96 f_X7_holds_181
    rw [ifi le32, nI_1 k]
    by_cases e : 32 ≤ S.length
    · rw [if_pos e, if_pos e]
      exact ⟨Mx, rfl, hS, fun _ _ _ => rfl⟩
    · rw [if_neg e, if_neg e, ok_t (hk_t hA), r3, bd1_e, nI_1, List.length_append, List.length_singleton]
      have fin : ok (xk sh b3 13 (nI S.length)) (nm (px_u Mx b3 (nI S.length).toNatClampNeg v) fun M_96 => some (Sum.inl (nI (S.length + 1), nI (k + 1), M_96))) = (some (.inl (nI (S.length + 1), nI (k + 1), px_u Mx b3 S.length v)) : Option ((Int32 × Int32 × px_M) ⊕ (Int32 × px_M))) := by
        rw [ok_t (xk_t s3 (ix_k (show S.length < 32 by omega) (by decide))), nI_clamp (show S.length < 2 ^ 31 by omega), nm_u]
      refine ⟨px_u Mx b3 S.length v, ?_, hS.push (by omega) v, fun c j hc => pu_n (fun z => hc z.1)⟩
      by_cases e7 : x7 = 0
      · obtain ⟨j, j1, j2, j3⟩ := h0 e7
        rw [if_pos e7, j2, nm_u, ok_t (ix_k j1 (by decide)), nI_clamp (show j < 2 ^ 31 by omega), j3, fin]
      · rw [if_neg e7, ok_t (hk_t hA), r0, bd1_e, ok_t (xk_t s0 (ix_k (show k < 300 by omega) (by decide))), nI_clamp (show k < 2 ^ 31 by omega), ← ht, ← h1 e7, fin]
  rw [start, ← ht]
  unfold f_X7_holds_32 tok
  rw [e_within, bd1_e, show nI 7 - 1 = 6 by decide]
  by_cases q1 : 0 < -t
  · rw [if_pos q1, if_pos q1, if_pos rfl]
    by_cases q2 : 0 ≤ -t - 307 ∧ -t - 307 ≤ 6
    · rw [if_pos q2, bI_t q2, if_neg (show ¬ (1 : Int32) = 0 by decide)]
      obtain ⟨j, hj, ej⟩ := nI_of2 (M := 6) (n := 6) (by decide) (Int32.not_lt.mpr q2.1) q2.2
      have := push 0 (Mx 19 j) (fun _ => ⟨j, by omega, ej, rfl⟩) (fun z => absurd rfl z)
      rw [ej, nI_clamp (show j < 2 ^ 31 by omega)]
      exact this
    · rw [if_neg q2, bI_f q2, if_pos (show (0 : Int32) = 0 from rfl)]
      have lt1 : (nI S.length < 1) ↔ S.length < 1 := nI_ltI (b := 1) (by omega) (by decide)
      have lt2 : (nI S.length < 2) ↔ S.length < 2 := nI_ltI (b := 2) (by omega) (by decide)
      unfold f_X7_holds_140 f_X7_holds_181
      rw [ifi lt1, ifi lt2, nI_1]
      by_cases q3 : S.length < 1
      · rw [if_pos q3, if_pos q3, if_pos (show S.length < 2 by omega), ite_self]
        exact ⟨Mx, rfl, hS, fun _ _ _ => rfl⟩
      · rw [if_neg q3, if_neg q3]
        have e1 : nI S.length - 1 = nI (S.length - 1) := pk_sub (b := 1) (by omega)
        by_cases q4 : -t = 306
        · rw [if_pos q4, if_pos q4, ok_t (hk_t hA), r3, bd1_e, ok_t (hk_t hA), bd1_e, e1, nm_u, ok_t (xk_t s3 (ix_k (show S.length - 1 < 32 by omega) (by decide))), nI_clamp (show S.length - 1 < 2 ^ 31 by omega), nm_u, hS.2 _ (by omega), nm_u, List.length_set]
          exact ⟨_, ok_t (xk_t s3 (ix_k (show S.length - 1 < 32 by omega) (by decide))), hS.put (by omega) _, fun c j hc => pu_n (fun z => hc z.1)⟩
        · rw [if_neg q4, if_neg q4]
          by_cases q5 : S.length < 2
          · rw [if_pos q5, if_pos q5]
            exact ⟨Mx, rfl, hS, fun _ _ _ => rfl⟩
          · have e2 : nI S.length - 2 = nI (S.length - 2) := pk_sub (b := 2) (by omega)
            have e3 : nI S.length + -1 = nI (S.length - 1) := by rw [← e1]; grind
            rw [if_neg q5, if_neg q5, ok_t (hk_t hA), r3, bd1_e, ok_t (hk_t hA), bd1_e, e2, nm_u, ok_t (xk_t s3 (ix_k (show S.length - 2 < 32 by omega) (by decide))), ok_t (hk_t hA), bd1_e, e1, nm_u, ok_t (xk_t s3 (ix_k (show S.length - 1 < 32 by omega) (by decide))), nI_clamp (show S.length - 2 < 2 ^ 31 by omega), nI_clamp (show S.length - 1 < 2 ^ 31 by omega), hS.2 _ (by omega), hS.2 _ (by omega), e_work, bd1_e, ok_t (xk_t s3 (ix_k (show S.length - 2 < 32 by omega) (by decide))), nm_u, e3]
            refine ⟨_, ?_, (hS.cut (k := S.length - 1)).put (by simp; omega) _, fun c j hc => pu_n (fun z => hc z.1)⟩
            rw [List.length_set, List.length_take, Nat.min_eq_left (by omega)]
  · rw [if_neg q1, if_neg q1, bd1_e, if_neg (show ¬ (1 : Int32) = 0 by decide)]
    exact push 1 t (fun z => absurd z (by decide)) (fun _ => rfl)
end TOK
