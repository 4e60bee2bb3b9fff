/-! the reference's search: backwards, and the whole of it -/
section BACK
variable {sh : px_Sh} {R : px_R} {wr ws an D s p0 w : Nat}
theorem f_back1 (hS : SR sh R) (hs : s ≤ 20) {t p : Nat} (ht : t < 40) (hp : p < 18432) (M : px_M) :
    ∃ M1, lpf (fun a : Int32 × px_M => f_X12_findLeast_251 sh a.2 R (nI s) (nI t) (nI p) a.1) (0, M) = some M1 ∧ (∀ c j, ¬ (c = 136 + t ∧ j = p) → M1 c j = M c j) ∧ (M1 (136 + t) p ≠ 0 ↔ M (136 + t) p ≠ 0 ∨ (M (94 + t) p ≠ 0 ∧ ∃ k, k < 3 ∧ ∃ q, gt s p k = some q ∧ M (137 + t) q ≠ 0)) := by
  obtain ⟨s1, s2, s3, s4⟩ := sr93 hS (show t < 41 by omega)
  obtain ⟨v1, v2, v3, v4⟩ := sr93 hS (show t + 1 < 41 by omega)
  by_cases hc : M (94 + t) p = 0
  · refine ⟨M, lpf_end ?_, fun _ _ _ => rfl, ?_⟩
    · show f_X12_findLeast_251 sh M R (nI s) (nI t) (nI p) 0 = _
      unfold f_X12_findLeast_251
      rw [if_neg (by decide), ok_t (ix_k (show t < 41 by omega) (by decide)), nI_clamp (show t < 2 ^ 31 by omega), s1, bd1_e, ok_t (xk_t s3 (ix_k hp (by decide))), nI_clamp (show p < 2 ^ 31 by omega), if_pos hc]
    · constructor
      · exact Or.inl
      · rintro (h | ⟨h, _⟩)
        · exact h
        · exact absurd hc h
  · have loop : ∀ (m k : Nat) (Mx : px_M), k + m = 3 → (∀ c j, ¬ (c = 136 + t ∧ j = p) → Mx c j = M c j) → (Mx (136 + t) p ≠ 0 ↔ M (136 + t) p ≠ 0 ∨ ∃ i, i < k ∧ ∃ q, gt s p i = some q ∧ M (137 + t) q ≠ 0) →
        ∃ M1, lpf (fun a : Int32 × px_M => f_X12_findLeast_251 sh a.2 R (nI s) (nI t) (nI p) a.1) (nI k, Mx) = some M1 ∧ (∀ c j, ¬ (c = 136 + t ∧ j = p) → M1 c j = M c j) ∧ (M1 (136 + t) p ≠ 0 ↔ M (136 + t) p ≠ 0 ∨ ∃ i, i < 3 ∧ ∃ q, gt s p i = some q ∧ M (137 + t) q ≠ 0) := by
      intro m
      induction m with
      | zero =>
        intro k Mx hk q1 q2
        obtain rfl : k = 3 := by omega
        refine ⟨Mx, lpf_end ?_, q1, q2⟩
        show f_X12_findLeast_251 sh Mx R (nI s) (nI t) (nI p) (nI 3) = _
        unfold f_X12_findLeast_251
        rw [if_pos (by decide)]
      | succ m ih =>
        intro k Mx hk q1 q2
        have gn := gI_none (o := gt s p k) (fun q => gt_b hp)
        have hcx : ¬ Mx (94 + t) p = 0 := by rw [q1 _ _ (by omega)]; exact hc
        have hd : f_X12_findLeast_251 sh Mx R (nI s) (nI t) (nI p) (nI k) = if gI (gt s p k) = -1 then some (.inl (nI (k + 1), Mx)) else ok (xk sh (136 + (t + 1)) 15 (gI (gt s p k))) <| if Mx (136 + (t + 1)) (gI (gt s p k)).toNatClampNeg = 0 then some (.inl (nI (k + 1), Mx)) else some (.inl (nI (k + 1), px_u Mx (136 + t) p 1)) := by
          unfold f_X12_findLeast_251 f_X12_findLeast_317
          rw [if_neg (show ¬ 3 ≤ nI k from nI_ge (b := 3) (by omega) (by decide)), ok_t (ix_k (show t < 41 by omega) (by decide)), nI_clamp (show t < 2 ^ 31 by omega), s1, bd1_e, ok_t (xk_t s3 (ix_k hp (by decide))), nI_clamp (show p < 2 ^ 31 by omega), if_neg hcx, e_goes hp hs (by omega), bd1_e, nI_1 t, nm_u, ok_t (ix_k (show t + 1 < 41 by omega) (by decide)), nI_clamp (show t + 1 < 2 ^ 31 by omega), v2, bd1_e, ok_t (ix_k (show t < 41 by omega) (by decide)), s2, bd1_e, ok_t (xk_t s4 (ix_k hp (by decide))), nm_u, nI_1]
        have nogo : (∀ q, gt s p k = some q → M (137 + t) q = 0) → f_X12_findLeast_251 sh Mx R (nI s) (nI t) (nI p) (nI k) = some (.inl (nI (k + 1), Mx)) → ∃ M1, lpf (fun a : Int32 × px_M => f_X12_findLeast_251 sh a.2 R (nI s) (nI t) (nI p) a.1) (nI k, Mx) = some M1 ∧ (∀ c j, ¬ (c = 136 + t ∧ j = p) → M1 c j = M c j) ∧ (M1 (136 + t) p ≠ 0 ↔ M (136 + t) p ≠ 0 ∨ ∃ i, i < 3 ∧ ∃ q, gt s p i = some q ∧ M (137 + t) q ≠ 0) := by
          intro hno hb
          rw [lpf_go (body := fun a : Int32 × px_M => f_X12_findLeast_251 sh a.2 R (nI s) (nI t) (nI p) a.1) (a := (nI k, Mx)) hb]
          refine ih (k + 1) Mx (by omega) q1 ?_
          rw [q2]
          constructor
          · rintro (h | ⟨i, h1, h2⟩)
            · exact Or.inl h
            · exact Or.inr ⟨i, by omega, h2⟩
          · rintro (h | ⟨i, h1, q, h2, h3⟩)
            · exact Or.inl h
            · have : i ≠ k := fun e => h3 (hno q (by rw [← e]; exact h2))
              exact Or.inr ⟨i, by omega, q, h2, h3⟩
        cases hg : gt s p k with
        | none => exact nogo (fun q hq => by rw [hg] at hq; cases hq) (by rw [hd, if_pos (gn.mpr hg)])
        | some q =>
          have hq := gt_b hp hg
          have hm : Mx (136 + (t + 1)) q = M (137 + t) q := by rw [q1 _ _ (by omega), show 136 + (t + 1) = 137 + t by omega]
          rw [if_neg (fun z => by rw [gn, hg] at z; cases z), hg, show gI (some q) = nI q from rfl, ok_t (xk_t v4 (ix_k hq (by decide))), nI_clamp (show q < 2 ^ 31 by omega), hm] at hd
          by_cases hz : M (137 + t) q = 0
          · exact nogo (fun q' hq' => by rw [hg] at hq'; rw [← Option.some.inj hq']; exact hz) (by rw [hd, if_pos hz])
          · rw [if_neg hz] at hd
            rw [lpf_go (body := fun a : Int32 × px_M => f_X12_findLeast_251 sh a.2 R (nI s) (nI t) (nI p) a.1) (a := (nI k, Mx)) hd]
            refine ih (k + 1) _ (by omega) (fun c j hcj => by rw [pu_n hcj]; exact q1 c j hcj) ?_
            rw [px_u_in]
            exact ⟨fun _ => Or.inr ⟨k, by omega, q, hg, hz⟩, fun _ => by decide⟩
    obtain ⟨M1, g1, g2, g3⟩ := loop 3 0 M (by omega) (fun _ _ _ => rfl) ⟨Or.inl, fun h => by
      rcases h with h | ⟨i, hi, _⟩
      · exact h
      · exact absurd hi (by omega)⟩
    refine ⟨M1, g1, g2, ?_⟩
    rw [g3]
    constructor
    · rintro (h | h)
      · exact Or.inl h
      · exact Or.inr ⟨hc, h⟩
    · rintro (h | ⟨_, h⟩)
      · exact Or.inl h
      · exact Or.inr h
theorem f_back2 (hS : SR sh R) (hs : s ≤ 20) {t : Nat} (ht : t < 40) (M : px_M) :
    ∃ M1, lpf (fun a : Int32 × px_M => f_X12_findLeast_240 sh a.2 R (nI s) (nI t) a.1) (0, M) = some M1 ∧ (∀ c j, c ≠ 136 + t → M1 c j = M c j) ∧ ∀ p, p < 18432 → (M1 (136 + t) p ≠ 0 ↔ M (136 + t) p ≠ 0 ∨ (M (94 + t) p ≠ 0 ∧ ∃ k, k < 3 ∧ ∃ q, gt s p k = some q ∧ M (137 + t) q ≠ 0)) := by
  have loop : ∀ (m p : Nat) (Mx : px_M), p + m = 18432 → (∀ c j, ¬ (c = 136 + t ∧ j < p) → Mx c j = M c j) → (∀ p', p' < p → (Mx (136 + t) p' ≠ 0 ↔ M (136 + t) p' ≠ 0 ∨ (M (94 + t) p' ≠ 0 ∧ ∃ k, k < 3 ∧ ∃ q, gt s p' k = some q ∧ M (137 + t) q ≠ 0))) →
      ∃ M1, lpf (fun a : Int32 × px_M => f_X12_findLeast_240 sh a.2 R (nI s) (nI t) a.1) (nI p, Mx) = some M1 ∧ (∀ c j, c ≠ 136 + t → M1 c j = M c j) ∧ ∀ p, p < 18432 → (M1 (136 + t) p ≠ 0 ↔ M (136 + t) p ≠ 0 ∨ (M (94 + t) p ≠ 0 ∧ ∃ k, k < 3 ∧ ∃ q, gt s p k = some q ∧ M (137 + t) q ≠ 0)) := by
    intro m
    induction m with
    | zero =>
      intro p Mx hp q1 q2
      obtain rfl : p = 18432 := by omega
      refine ⟨Mx, lpf_end ?_, fun c j hc => q1 c j (by omega), q2⟩
      show f_X12_findLeast_240 sh Mx R (nI s) (nI t) (nI 18432) = _
      unfold f_X12_findLeast_240
      rw [if_pos (by decide)]
    | succ m ih =>
      intro p Mx hp q1 q2
      obtain ⟨My, g1, g2, g3⟩ := f_back1 hS hs ht (show p < 18432 by omega) Mx
      have hb : f_X12_findLeast_240 sh Mx R (nI s) (nI t) (nI p) = some (.inl (nI (p + 1), My)) := by
        unfold f_X12_findLeast_240
        rw [if_neg (show ¬ 18432 ≤ nI p from nI_ge (b := 18432) (by omega) (by decide)), g1, bd1_e, nI_1]
      rw [lpf_go (body := fun a : Int32 × px_M => f_X12_findLeast_240 sh a.2 R (nI s) (nI t) a.1) (a := (nI p, Mx)) hb]
      refine ih (p + 1) My (by omega) (fun c j hc => ?_) fun p' hp' => ?_
      · rw [g2 c j (by omega)]; exact q1 c j (by omega)
      · by_cases e : p' = p
        · subst e
          rw [g3, q1 (136 + t) p' (by omega), q1 (94 + t) p' (by omega)]
          have : ∀ q, Mx (137 + t) q = M (137 + t) q := fun q => q1 _ _ (by omega)
          simp only [this]
        · rw [g2 _ _ (by omega)]; exact q2 p' (by omega)
  exact loop 18432 0 M (by omega) (fun _ _ _ => rfl) (fun _ h => absurd h (by omega))
/-- what the whole search leaves -/
def FL_ (wr ws an D s p0 : Nat) (M0 Mx : px_M) : Prop := eqF M0 Mx ∧ isFst (fun d => Gd wr ws an D s d 0 p0) (Mx 73 34) ∧ ∀ l, l ≤ 40 → Mx 73 34 = nI l → ∀ u, u ≤ l → ∀ q, q < 18432 → (Mx (136 + u) q ≠ 0 ↔ Rc s p0 u q ∧ Gd wr ws an D s (l - u) u q)
theorem nI_ne1 {t : Nat} (ht : t < 2 ^ 31) : ¬ nI t = -1 := fun z => by
  have : (nI t).toInt = (-1 : Int32).toInt := by rw [z]
  rw [nI_toInt ht, show (-1 : Int32).toInt = -1 by decide] at this
  omega
theorem m_find (hS : SR sh R) (hs : s ≤ 20) {M : px_M} {r a : Nat} (hr : r ≤ 255) (ha : a < 72) (hW : Wd M w wr an ws D) (h25 : M 73 25 = nI r) (h26 : M 73 26 = nI a) :
    ∃ M2, f_X12_findLeast sh M R (nI w) (nI s) = some M2 ∧ FL_ wr ws an D s (72 * r + a) M M2 := by
  have hws := hW.2.1.2.2
  have hp0 : 72 * r + a < 18432 := by omega
  obtain ⟨p0, hp⟩ : ∃ p0, p0 = 72 * r + a := ⟨_, rfl⟩
  rw [← hp] at hp0 ⊢
  obtain ⟨M1, c1, c2, c3⟩ := f_clear hS (nI w) (nI s) (px_u M 73 34 (-1))
  obtain ⟨s1, s2, s3, s4⟩ := sr93 hS (show 0 < 41 by omega)
  have e25 : M1 73 25 = nI r := by rw [c2 73 25 (by omega) (by omega), pu_n (by omega)]; exact h25
  have e26 : M1 73 26 = nI a := by rw [c2 73 26 (by omega) (by omega), pu_n (by omega)]; exact h26
  have ep : 72 * M1 73 25 + M1 73 26 = nI p0 := by rw [e25, e26, show (72 : Int32) = nI 72 from rfl, pk_mul, nI_add, hp]
  have hf : ∀ c j, ¬ (94 ≤ c ∧ c ≤ 134) → ¬ (136 ≤ c ∧ c ≤ 176) → ¬ (c = 73 ∧ j = 34) → px_u M1 94 p0 1 c j = M c j := fun c j k1 k2 k3 => by rw [pu_n (by omega), c2 c j k1 k2, pu_n k3]
  obtain ⟨M3, g1, g2⟩ := f_fwd (p0 := p0) hS hs hp0 hW 41 0 (px_u M1 94 p0 1) (by omega) hf (by rw [pu_n (by omega), c2 73 34 (by omega) (by omega)]; exact px_u_in _ _ _ _)
    (fun u h1 h2 q hq => by
      obtain rfl : u = 0 := by omega
      by_cases e : q = p0
      · subst e; rw [px_u_in]; exact ⟨fun _ => rfl, fun _ => by decide⟩
      · rw [pu_n (by omega), (c3 0 (by omega) q hq).1]
        exact ⟨fun z => absurd rfl z, fun z => absurd z e⟩)
    (fun u h1 h2 q hq => by rw [pu_n (by omega)]; exact (c3 u h2 q hq).1) (fun u h1 q hq => by rw [pu_n (by omega)]; exact (c3 u h1 q hq).2) (fun u hu => absurd hu (by omega))
  obtain ⟨f1, f2⟩ := g2
  have head : ∀ X, lpf (fun a : Int32 × px_M => f_X12_findLeast_233 sh a.2 R (nI s) a.1) (M3 73 34 - 1, M3) = some X → f_X12_findLeast sh M R (nI w) (nI s) = some X := by
    intro X hX
    unfold f_X12_findLeast
    rw [nm_u, c1, bd1_e, show R 93 (0 : Int32).toNatClampNeg = some 94 from s1, bd1_e, ep, ok_t (xk_t s3 (ix_k hp0 (by decide))), nI_clamp (show p0 < 2 ^ 31 by omega), nm_u, show lpf (fun a : Int32 × px_M => f_X12_findLeast_78 sh a.2 R (nI w) (nI s) a.1) (0, px_u M1 94 p0 1) = _ from g1, bd1_e, nm_u, hX, bd1_e]
  rcases f2 with ⟨k1, k2⟩ | ⟨l, k1, k2, k3, k4, k5, k6, k7⟩
  · refine ⟨M3, head M3 (lpf_end ?_), f1, Or.inl ⟨k1, fun d hd z => ?_⟩, fun l hl h => ?_⟩
    · show f_X12_findLeast_233 sh M3 R (nI s) (M3 73 34 - 1) = _
      unfold f_X12_findLeast_233
      rw [k1, if_pos (by decide)]
    · obtain ⟨p, q1, q2⟩ := (Rc_Gd hws d 0).mpr z
      exact k2 d hd p q1 q2
    · rw [k1] at h; exact absurd h.symm (nI_ne1 (by omega))
  · -- backwards
    have loop : ∀ (m : Nat) (Mx : px_M), m ≤ l → eqF M Mx → Mx 73 34 = nI l → (∀ u, u ≤ l → ∀ q, q < 18432 → (Mx (94 + u) q ≠ 0 ↔ Rc s p0 u q)) → (∀ u, u < m → ∀ q, q < 18432 → Mx (136 + u) q = 0) → (∀ u, m ≤ u → u ≤ l → ∀ q, q < 18432 → (Mx (136 + u) q ≠ 0 ↔ Rc s p0 u q ∧ Gd wr ws an D s (l - u) u q)) →
        ∃ My, lpf (fun a : Int32 × px_M => f_X12_findLeast_233 sh a.2 R (nI s) a.1) (nI m - 1, Mx) = some My ∧ eqF M My ∧ My 73 34 = nI l ∧ ∀ u, u ≤ l → ∀ q, q < 18432 → (My (136 + u) q ≠ 0 ↔ Rc s p0 u q ∧ Gd wr ws an D s (l - u) u q) := by
      intro m
      induction m with
      | zero =>
        intro Mx hm i1 i2 i3 i4 i5
        refine ⟨Mx, lpf_end ?_, i1, i2, fun u hu => i5 u (by omega) hu⟩
        show f_X12_findLeast_233 sh Mx R (nI s) (nI 0 - 1) = _
        unfold f_X12_findLeast_233
        rw [if_pos (by decide)]
      | succ m ih =>
        intro Mx hm i1 i2 i3 i4 i5
        obtain ⟨My, g1, g2, g3⟩ := f_back2 hS hs (show m < 40 by omega) Mx
        have e1 : nI (m + 1) - 1 = nI m := pk_sub (a := m + 1) (b := 1) (by omega)
        have hb : f_X12_findLeast_233 sh Mx R (nI s) (nI (m + 1) - 1) = some (.inl (nI m - 1, My)) := by
          rw [e1]
          unfold f_X12_findLeast_233
          rw [if_neg (nI_pos (show m < 2 ^ 31 by omega)), g1, bd1_e, show nI m + -1 = nI m - 1 by grind]
        rw [lpf_go (body := fun a : Int32 × px_M => f_X12_findLeast_233 sh a.2 R (nI s) a.1) (a := (nI (m + 1) - 1, Mx)) hb]
        refine ih My (by omega) (fun c j d1 d2 d3 => ?_) ?_ (fun u hu q hq => ?_) (fun u hu q hq => ?_) (fun u hu1 hu2 q hq => ?_)
        · rw [g2 c j (by omega)]; exact i1 c j d1 d2 d3
        · rw [g2 73 34 (by omega)]; exact i2
        · rw [g2 _ _ (by omega)]; exact i3 u hu q hq
        · rw [g2 _ _ (by omega)]; exact i4 u (by omega) q hq
        · by_cases e : u = m
          · subst e
            rw [g3 q hq, i4 u (by omega) q hq, i3 u (by omega) q hq, show l - u = (l - (u + 1)) + 1 by omega, Gd_succ hws]
            constructor
            · rintro (h | ⟨h1, k, h2, q', h3, h4⟩)
              · exact absurd rfl h
              · rw [show 137 + u = 136 + (u + 1) by omega, i5 (u + 1) (by omega) (by omega) q' (gt_b hq h3)] at h4
                exact ⟨h1, k, h2, q', h3, h4.2⟩
            · rintro ⟨h1, k, h2, q', h3, h4⟩
              refine Or.inr ⟨h1, k, h2, q', h3, ?_⟩
              rw [show 137 + u = 136 + (u + 1) by omega, i5 (u + 1) (by omega) (by omega) q' (gt_b hq h3)]
              exact ⟨⟨q, k, h1, h2, h3⟩, h4⟩
          · rw [g2 _ _ (by omega)]; exact i5 u (by omega) hu2 q hq
    obtain ⟨My, r1, r2, r3, r4⟩ := loop l M3 (Nat.le_refl _) f1 k2 k5 k6 (fun u h1 h2 q hq => by
      obtain rfl : u = l := by omega
      rw [Nat.sub_self]; exact k7 q hq)
    refine ⟨My, head My (by rw [k2]; exact r1), r2, ?_, fun l' hl' h => ?_⟩
    · rw [r3]
      refine Or.inr ⟨l, k1, rfl, (Rc_Gd hws l 0).mp k4, fun e he z => ?_⟩
      obtain ⟨p, q1, q2⟩ := (Rc_Gd hws e 0).mpr z
      exact k3 e he p q1 q2
    · obtain rfl : l = l' := (nI_eq (by omega) (by omega)).mp (r3.symm.trans h)
      exact r4
end BACK
