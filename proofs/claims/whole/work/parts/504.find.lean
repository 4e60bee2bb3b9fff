/-! the reference's search -/
theorem rl93 : ∀ t, t < 41 → rlay 93 t = some (94 + t) ∧ rlay 135 t = some (136 + t) ∧ lay (94 + t) = (15, 18432) ∧ lay (136 + t) = (15, 18432) := by decide
theorem sr93 {sh : px_Sh} {R : px_R} (hS : SR sh R) {t : Nat} (ht : t < 41) : R 93 t = some (94 + t) ∧ R 135 t = some (136 + t) ∧ sh (94 + t) = some (15, 18432) ∧ sh (136 + t) = some (15, 18432) := by
  obtain ⟨h1, h2, h3, h4⟩ := rl93 t ht
  exact ⟨hS.2 _ _ _ h1, hS.2 _ _ _ h2, by rw [hS.1 _ (by omega), h3], by rw [hS.1 _ (by omega), h4]⟩
def eqF (M M' : px_M) : Prop := ∀ c j, ¬ (94 ≤ c ∧ c ≤ 134) → ¬ (136 ≤ c ∧ c ≤ 176) → ¬ (c = 73 ∧ j = 34) → M' c j = M c j
theorem gI_none {o : Option Nat} (h : ∀ q, o = some q → q < 18432) : gI o = -1 ↔ o = none := by
  cases o with
  | none => simp [gI]
  | some q =>
    have hq := h q rfl
    constructor
    · intro e
      have : (nI q).toInt = (-1 : Int32).toInt := by rw [show nI q = -1 from e]
      rw [nI_toInt (by omega), show (-1 : Int32).toInt = -1 by decide] at this
      omega
    · intro e; cases e
section FIND
variable {sh : px_Sh} {R : px_R} {wr ws an D s p0 w : Nat}
theorem f_clear1 (hS : SR sh R) (x1 x2 : Int32) {t : Nat} (ht : t ≤ 40) (M : px_M) : ∃ M1, lpf (fun a : Int32 × px_M => f_X12_findLeast_16 sh a.2 R x1 x2 (nI t) a.1) (0, M) = some M1 ∧ (∀ c j, c ≠ 94 + t → c ≠ 136 + t → M1 c j = M c j) ∧ ∀ p, p < 18432 → M1 (94 + t) p = 0 ∧ M1 (136 + t) p = 0 := by
  obtain ⟨s1, s2, s3, s4⟩ := sr93 hS (show t < 41 by omega)
  have loop : ∀ (m p : Nat) (Mx : px_M), p + m = 18432 → (∀ c j, c ≠ 94 + t → c ≠ 136 + t → Mx c j = M c j) → (∀ q, q < p → Mx (94 + t) q = 0 ∧ Mx (136 + t) q = 0) →
      ∃ M1, lpf (fun a : Int32 × px_M => f_X12_findLeast_16 sh a.2 R x1 x2 (nI t) a.1) (nI p, Mx) = some M1 ∧ (∀ c j, c ≠ 94 + t → c ≠ 136 + t → M1 c j = M c j) ∧ ∀ p, p < 18432 → M1 (94 + t) p = 0 ∧ M1 (136 + t) p = 0 := by
    intro m
    induction m with
    | zero =>
      intro p Mx hp q1 q2
      obtain rfl : p = 18432 := by omega
      refine ⟨Mx, lpf_end ?_, q1, q2⟩
      show f_X12_findLeast_16 sh Mx R x1 x2 (nI t) (nI 18432) = _
      unfold f_X12_findLeast_16
      rw [if_pos (by decide)]
    | succ m ih =>
      intro p Mx hp q1 q2
      have hb : f_X12_findLeast_16 sh Mx R x1 x2 (nI t) (nI p) = some (.inl (nI (p + 1), px_u (px_u Mx (94 + t) p 0) (136 + t) p 0)) := by
        unfold f_X12_findLeast_16
        rw [if_neg (show ¬ 18432 ≤ nI p from nI_ge (b := 18432) (by omega) (by decide)), ok_t (ix_k (show t < 41 by omega) (by decide)), nI_clamp (show t < 2 ^ 31 by omega), s1, bd1_e, ok_t (xk_t s3 (ix_k (show p < 18432 by omega) (by decide))), nI_clamp (show p < 2 ^ 31 by omega), nm_u, ok_t (ix_k (show t < 41 by omega) (by decide)), s2, bd1_e, ok_t (xk_t s4 (ix_k (show p < 18432 by omega) (by decide))), nm_u, nI_1]
      rw [lpf_go (body := fun a : Int32 × px_M => f_X12_findLeast_16 sh a.2 R x1 x2 (nI t) a.1) (a := (nI p, Mx)) hb]
      refine ih (p + 1) _ (by omega) (fun c j c1 c2 => ?_) fun q hq => ?_
      · rw [pu_n (by omega), pu_n (by omega)]; exact q1 c j c1 c2
      · by_cases e : q = p
        · subst e
          exact ⟨by rw [pu_n (by omega)]; exact px_u_in _ _ _ _, px_u_in _ _ _ _⟩
        · rw [pu_n (by omega), pu_n (by omega), pu_n (by omega), pu_n (by omega)]
          exact q2 q (by omega)
  exact loop 18432 0 M (by omega) (fun _ _ _ _ => rfl) (fun q hq => absurd hq (by omega))
theorem f_clear (hS : SR sh R) (x1 x2 : Int32) (M : px_M) : ∃ M1, lpf (fun a : Int32 × px_M => f_X12_findLeast_7 sh a.2 R x1 x2 a.1) (0, M) = some M1 ∧ (∀ c j, ¬ (94 ≤ c ∧ c ≤ 134) → ¬ (136 ≤ c ∧ c ≤ 176) → M1 c j = M c j) ∧ ∀ t, t ≤ 40 → ∀ p, p < 18432 → M1 (94 + t) p = 0 ∧ M1 (136 + t) p = 0 := by
  have loop : ∀ (m t : Nat) (Mx : px_M), t + m = 41 → (∀ c j, ¬ (94 ≤ c ∧ c ≤ 134) → ¬ (136 ≤ c ∧ c ≤ 176) → Mx c j = M c j) → (∀ u, u < t → ∀ p, p < 18432 → Mx (94 + u) p = 0 ∧ Mx (136 + u) p = 0) →
      ∃ M1, lpf (fun a : Int32 × px_M => f_X12_findLeast_7 sh a.2 R x1 x2 a.1) (nI t, Mx) = some M1 ∧ (∀ c j, ¬ (94 ≤ c ∧ c ≤ 134) → ¬ (136 ≤ c ∧ c ≤ 176) → M1 c j = M c j) ∧ ∀ t, t ≤ 40 → ∀ p, p < 18432 → M1 (94 + t) p = 0 ∧ M1 (136 + t) p = 0 := by
    intro m
    induction m with
    | zero =>
      intro t Mx ht q1 q2
      obtain rfl : t = 41 := by omega
      refine ⟨Mx, lpf_end ?_, q1, fun t ht => q2 t (by omega)⟩
      show f_X12_findLeast_7 sh Mx R x1 x2 (nI 41) = _
      unfold f_X12_findLeast_7
      rw [if_pos (by decide)]
    | succ m ih =>
      intro t Mx ht q1 q2
      obtain ⟨M1, g1, g2, g3⟩ := f_clear1 hS x1 x2 (show t ≤ 40 by omega) Mx
      have hb : f_X12_findLeast_7 sh Mx R x1 x2 (nI t) = some (.inl (nI (t + 1), M1)) := by
        unfold f_X12_findLeast_7
        rw [if_neg (show ¬ 40 < nI t by rw [show (40 : Int32) = nI 40 from rfl, nI_ltI (by decide) (by omega)]; omega), g1, bd1_e, nI_1]
      rw [lpf_go (body := fun a : Int32 × px_M => f_X12_findLeast_7 sh a.2 R x1 x2 a.1) (a := (nI t, Mx)) hb]
      refine ih (t + 1) M1 (by omega) (fun c j c1 c2 => ?_) fun u hu p hp => ?_
      · rw [g2 c j (by omega) (by omega)]; exact q1 c j c1 c2
      · by_cases e : u = t
        · subst e; exact g3 p hp
        · rw [g2 _ _ (by omega) (by omega), g2 _ _ (by omega) (by omega)]; exact q2 u (by omega) p hp
  exact loop 41 0 M (by omega) (fun _ _ _ _ => rfl) (fun q hq => absurd hq (by omega))
theorem f_spread (hS : SR sh R) (hs : s ≤ 20) (x1 : Int32) {t p : Nat} (ht : t ≤ 40) (hp : p < 18432) (M : px_M) :
    ∃ M1, lpf (fun a : Int32 × px_M => f_X12_findLeast_160 sh a.2 R x1 (nI s) (nI t) (nI p) a.1) (0, M) = some M1 ∧ (∀ c j, ¬ (c = 95 + t ∧ t < 40 ∧ ∃ k, k < 3 ∧ gt s p k = some j) → M1 c j = M c j) ∧ (t < 40 → ∀ j k, k < 3 → gt s p k = some j → M1 (95 + t) j = 1) := by
  by_cases ht40 : t < 40
  · obtain ⟨s1, s2, s3, s4⟩ := sr93 hS (show t + 1 < 41 by omega)
    have loop : ∀ (m k : Nat) (Mx : px_M), k + m = 3 → (∀ c j, ¬ (c = 95 + t ∧ t < 40 ∧ ∃ k, k < 3 ∧ gt s p k = some j) → Mx c j = M c j) → (∀ j i, i < k → gt s p i = some j → Mx (95 + t) j = 1) →
      ∃ M1, lpf (fun a : Int32 × px_M => f_X12_findLeast_160 sh a.2 R x1 (nI s) (nI t) (nI p) a.1) (nI k, Mx) = some M1 ∧ (∀ c j, ¬ (c = 95 + t ∧ t < 40 ∧ ∃ k, k < 3 ∧ gt s p k = some j) → M1 c j = M c j) ∧ (t < 40 → ∀ j k, k < 3 → gt s p k = some j → M1 (95 + t) j = 1) := by
      intro m
      induction m with
      | zero =>
        intro k Mx hk q1 q2
        obtain rfl : k = 3 := by omega
        refine ⟨Mx, lpf_end ?_, q1, fun _ => q2⟩
        show f_X12_findLeast_160 sh Mx R x1 (nI s) (nI t) (nI p) (nI 3) = _
        unfold f_X12_findLeast_160
        rw [if_pos (by decide)]
      | succ m ih =>
        intro k Mx hk q1 q2
        have gn := gI_none (o := gt s p k) (fun q => gt_b hp)
        cases hg : gt s p k with
        | none =>
          have hb : f_X12_findLeast_160 sh Mx R x1 (nI s) (nI t) (nI p) (nI k) = some (.inl (nI (k + 1), Mx)) := by
            unfold f_X12_findLeast_160 f_X12_findLeast_208
            rw [if_neg (show ¬ 3 ≤ nI k from nI_ge (b := 3) (by omega) (by decide)), if_neg (show ¬ 40 ≤ nI t from nI_ge (b := 40) ht40 (by decide)), e_goes hp hs (by omega), bd1_e, if_pos (gn.mpr hg), nI_1]
          rw [lpf_go (body := fun a : Int32 × px_M => f_X12_findLeast_160 sh a.2 R x1 (nI s) (nI t) (nI p) a.1) (a := (nI k, Mx)) hb]
          refine ih (k + 1) Mx (by omega) q1 fun j i hi hj => ?_
          by_cases e : i = k
          · subst e; rw [hg] at hj; cases hj
          · exact q2 j i (by omega) hj
        | some q =>
          have hq := gt_b hp hg
          have hb : f_X12_findLeast_160 sh Mx R x1 (nI s) (nI t) (nI p) (nI k) = some (.inl (nI (k + 1), px_u Mx (95 + t) q 1)) := by
            unfold f_X12_findLeast_160 f_X12_findLeast_208
            rw [if_neg (show ¬ 3 ≤ nI k from nI_ge (b := 3) (by omega) (by decide)), if_neg (show ¬ 40 ≤ nI t from nI_ge (b := 40) ht40 (by decide)), e_goes hp hs (by omega), bd1_e, if_neg (fun z => by rw [gn, hg] at z; cases z), nI_1 t, nm_u, ok_t (ix_k (show t + 1 < 41 by omega) (by decide)), nI_clamp (show t + 1 < 2 ^ 31 by omega), s1, bd1_e, hg]
            show ok (xk sh (94 + (t + 1)) 15 (nI q)) _ = _
            rw [ok_t (xk_t s3 (ix_k hq (by decide))), show gI (some q) = nI q from rfl, nI_clamp (show q < 2 ^ 31 by omega), nm_u, nI_1, show 94 + (t + 1) = 95 + t by omega]
          rw [lpf_go (body := fun a : Int32 × px_M => f_X12_findLeast_160 sh a.2 R x1 (nI s) (nI t) (nI p) a.1) (a := (nI k, Mx)) hb]
          refine ih (k + 1) _ (by omega) (fun c j hc => ?_) fun j i hi hj => ?_
          · rw [pu_n (fun z => hc ⟨z.1, ht40, k, by omega, by rw [z.2]; exact hg⟩)]; exact q1 c j hc
          · by_cases e : j = q
            · subst e; exact px_u_in _ _ _ _
            · rw [pu_n (by omega)]
              by_cases e2 : i = k
              · subst e2; rw [hg] at hj; exact absurd (Option.some.inj hj).symm e
              · exact q2 j i (by omega) hj
    exact loop 3 0 M (by omega) (fun _ _ _ => rfl) (fun _ i hi => absurd hi (by omega))
  · refine ⟨M, lpf_end ?_, fun _ _ _ => rfl, fun z => absurd z ht40⟩
    show f_X12_findLeast_160 sh M R x1 (nI s) (nI t) (nI p) 0 = _
    unfold f_X12_findLeast_160
    rw [if_neg (by decide), if_pos (show 40 ≤ nI t from nI_le (a := 40) (by omega) (by omega))]
end FIND
