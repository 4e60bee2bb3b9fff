/-! the reference's search: forwards -/
section COME
variable {sh : px_Sh} {R : px_R} {wr ws an D s p0 w : Nat}
/-- the world asked for, and the day -/
def Wd (M : px_M) (w wr an ws D : Nat) : Prop := w < 4 ∧ (wr ≤ 255 ∧ an < 72 ∧ ws ≤ 10) ∧ (M 90 w = nI wr ∧ M 91 w = nI an ∧ M 92 w = nI ws) ∧ D ≤ 2020 ∧ M 73 24 = nI D
theorem Wd.eq {M M' : px_M} (h : Wd M w wr an ws D) (e : eqF M M') : Wd M' w wr an ws D := by
  obtain ⟨h1, h2, h3, h4, h5⟩ := h
  refine ⟨h1, h2, ?_, h4, ?_⟩
  · rw [e 90 w (by omega) (by omega) (by omega), e 91 w (by omega) (by omega) (by omega), e 92 w (by omega) (by omega) (by omega)]; exact h3
  · rw [e 73 24 (by omega) (by omega) (by omega)]; exact h5
def F2i (wr ws an D s p0 : Nat) (M0 Mx : px_M) (t p : Nat) : Prop := eqF M0 Mx ∧ (∀ u, u ≤ t → ∀ q, q < 18432 → (Mx (94 + u) q ≠ 0 ↔ Rc s p0 u q)) ∧ (t < 40 → ∀ q, q < 18432 → (Mx (95 + t) q ≠ 0 ↔ ∃ p', p' < p ∧ Rc s p0 t p' ∧ ∃ k, k < 3 ∧ gt s p' k = some q)) ∧ (∀ u, t + 1 < u → u ≤ 40 → ∀ q, q < 18432 → Mx (94 + u) q = 0) ∧
  (∀ u, u ≤ 40 → u ≠ t → ∀ q, q < 18432 → Mx (136 + u) q = 0) ∧ (∀ q, q < 18432 → (Mx (136 + t) q ≠ 0 ↔ q < p ∧ Rc s p0 t q ∧ Gd wr ws an D s 0 t q)) ∧ ((Mx 73 34 = -1 ∧ ∀ q, q < p → Rc s p0 t q → ¬ Gd wr ws an D s 0 t q) ∨ (Mx 73 34 = nI t ∧ ∃ q, q < p ∧ Rc s p0 t q ∧ Gd wr ws an D s 0 t q))
theorem f_come1 (hS : SR sh R) (hs : s ≤ 20) {M0 Mx : px_M} (hW : Wd M0 w wr an ws D) {t p : Nat} (ht : t ≤ 40) (hp : p < 18432) (h : F2i wr ws an D s p0 M0 Mx t p) :
    ∃ My, f_X12_findLeast_95 sh Mx R (nI w) (nI s) (nI t) (nI p) = some (.inl (nI (p + 1), My)) ∧ F2i wr ws an D s p0 M0 My t (p + 1) := by
  obtain ⟨i1, i2, i3, i4, i5, i6, i7⟩ := h
  obtain ⟨s1, s2, s3, s4⟩ := sr93 hS (show t < 41 by omega)
  have hW' := hW.eq i1
  obtain ⟨z, z1, z2⟩ := e_met (M := Mx) (wr := wr) (an := an) (ws := ws) (D := D) s hW'.1 hW'.2.1 hW'.2.2.1 hp hW'.2.2.2.1 ht
  have hd : f_X12_findLeast_95 sh Mx R (nI w) (nI s) (nI t) (nI p) = if Mx (94 + t) p = 0 then some (.inl (nI (p + 1), Mx)) else if z = 0 then f_X12_findLeast_157 sh Mx R (nI w) (nI s) (nI t) (nI p) else f_X12_findLeast_157 sh (px_u (px_u Mx 73 34 (nI t)) (136 + t) p 1) R (nI w) (nI s) (nI t) (nI p) := by
    unfold f_X12_findLeast_95 f_X12_findLeast_214
    rw [if_neg (show ¬ 18432 ≤ nI p from nI_ge (b := 18432) hp (by decide)), ok_t (ix_k (show t < 41 by omega) (by decide)), nI_clamp (show t < 2 ^ 31 by omega), s1, bd1_e, ok_t (xk_t s3 (ix_k hp (by decide))), nI_clamp (show p < 2 ^ 31 by omega), hW'.2.2.2.2, z1, bd1_e, nI_1, nm_u, ok_t (ix_k (show t < 41 by omega) (by decide)), s2, bd1_e, ok_t (xk_t s4 (ix_k hp (by decide))), nm_u]
  by_cases q : Mx (94 + t) p = 0
  · have hn : ¬ Rc s p0 t p := fun z => (i2 t (Nat.le_refl _) p hp).mpr z q
    refine ⟨Mx, by rw [hd, if_pos q], i1, i2, fun ht g hg => ?_, i4, i5, fun g hg => ?_, ?_⟩
    · rw [i3 ht g hg]
      constructor
      · rintro ⟨p', a1, a2⟩; exact ⟨p', by omega, a2⟩
      · rintro ⟨p', a1, a2, a3⟩
        exact ⟨p', by have : p' ≠ p := fun e => hn (by rw [← e]; exact a2)
                      omega, a2, a3⟩
    · rw [i6 g hg]
      constructor
      · rintro ⟨a1, a2⟩; exact ⟨by omega, a2⟩
      · rintro ⟨a1, a2, a3⟩
        exact ⟨by have : g ≠ p := fun e => hn (by rw [← e]; exact a2)
                  omega, a2, a3⟩
    · rcases i7 with ⟨a1, a2⟩ | ⟨a1, g, a2, a3⟩
      · refine Or.inl ⟨a1, fun g hg hg2 => a2 g ?_ hg2⟩
        have : g ≠ p := fun e => hn (by rw [← e]; exact hg2)
        omega
      · exact Or.inr ⟨a1, g, by omega, a3⟩
  · have hy : Rc s p0 t p := (i2 t (Nat.le_refl _) p hp).mp q
    -- what the spreading does to any memory
    have fin : ∀ Ma : px_M, eqF M0 Ma → (∀ u q, u ≤ 40 → q < 18432 → Ma (94 + u) q = Mx (94 + u) q) → (∀ u, u ≤ 40 → u ≠ t → ∀ q, q < 18432 → Ma (136 + u) q = 0) → (∀ q, q < 18432 → (Ma (136 + t) q ≠ 0 ↔ q < p + 1 ∧ Rc s p0 t q ∧ Gd wr ws an D s 0 t q)) → ((Ma 73 34 = -1 ∧ ∀ q, q < p + 1 → Rc s p0 t q → ¬ Gd wr ws an D s 0 t q) ∨ (Ma 73 34 = nI t ∧ ∃ q, q < p + 1 ∧ Rc s p0 t q ∧ Gd wr ws an D s 0 t q)) →
        ∃ My, f_X12_findLeast_157 sh Ma R (nI w) (nI s) (nI t) (nI p) = some (.inl (nI (p + 1), My)) ∧ F2i wr ws an D s p0 M0 My t (p + 1) := by
      intro Ma k1 k2 k3 k4 k5
      obtain ⟨My, g1, g2, g3⟩ := f_spread hS hs (nI w) ht hp Ma
      refine ⟨My, ?_, fun c j c1 c2 c3 => ?_, fun u hu q hq => ?_, fun ht4 q hq => ?_, fun u hu1 hu2 q hq => ?_, fun u hu1 hu2 q hq => ?_, fun q hq => ?_, ?_⟩
      · unfold f_X12_findLeast_157 f_X12_findLeast_214
        rw [g1, bd1_e, nI_1]
      · rw [g2 c j (by omega)]; exact k1 c j c1 c2 c3
      · rw [g2 _ _ (by omega), k2 u q (by omega) hq]; exact i2 u hu q hq
      · by_cases e : ∃ k, k < 3 ∧ gt s p k = some q
        · obtain ⟨k, e1, e2⟩ := e
          rw [g3 ht4 q k e1 e2]
          exact ⟨fun _ => ⟨p, by omega, hy, k, e1, e2⟩, fun _ => by decide⟩
        · rw [g2 _ _ (fun z => e z.2.2), show 95 + t = 94 + (t + 1) by omega, k2 (t + 1) q (by omega) hq, show 94 + (t + 1) = 95 + t by omega, i3 ht4 q hq]
          constructor
          · rintro ⟨p', a1, a2⟩; exact ⟨p', by omega, a2⟩
          · rintro ⟨p', a1, a2, a3⟩
            exact ⟨p', by have : p' ≠ p := fun e4 => e (by rw [← e4]; exact a3)
                          omega, a2, a3⟩
      · rw [g2 _ _ (by omega), k2 u q (by omega) hq]; exact i4 u hu1 hu2 q hq
      · rw [g2 _ _ (by omega)]; exact k3 u hu1 hu2 q hq
      · rw [g2 _ _ (by omega)]; exact k4 q hq
      · rw [g2 73 34 (by omega)]; exact k5
    by_cases qz : z = 0
    · have hn := z2.mp qz
      rw [hd, if_neg q, if_pos qz]
      refine fin Mx i1 (fun _ _ _ _ => rfl) i5 (fun g hg => ?_) ?_
      · rw [i6 g hg]
        constructor
        · rintro ⟨a1, a2⟩; exact ⟨by omega, a2⟩
        · rintro ⟨a1, a2, a3⟩
          exact ⟨by have : g ≠ p := fun e => hn (by rw [← e]; exact a3)
                    omega, a2, a3⟩
      · rcases i7 with ⟨a1, a2⟩ | ⟨a1, g, a2, a3⟩
        · refine Or.inl ⟨a1, fun g hg hg2 => ?_⟩
          by_cases e : g = p
          · rw [e]; exact hn
          · exact a2 g (by omega) hg2
        · exact Or.inr ⟨a1, g, by omega, a3⟩
    · have hg0 : Gd wr ws an D s 0 t p := Classical.byContradiction fun y => qz (z2.mpr y)
      rw [hd, if_neg q, if_neg qz]
      refine fin _ (fun c j c1 c2 c3 => ?_) (fun u q hu hq => ?_) (fun u hu1 hu2 q hq => ?_) (fun g hg => ?_) ?_
      · rw [pu_n (by omega), pu_n (by omega)]; exact i1 c j c1 c2 c3
      · rw [pu_n (by omega), pu_n (by omega)]
      · rw [pu_n (by omega), pu_n (by omega)]; exact i5 u hu1 hu2 q hq
      · by_cases e : g = p
        · subst e
          rw [px_u_in]
          exact ⟨fun _ => ⟨by omega, hy, hg0⟩, fun _ => by decide⟩
        · rw [pu_n (by omega), pu_n (by omega), i6 g hg]
          constructor
          · rintro ⟨a1, a2⟩; exact ⟨by omega, a2⟩
          · rintro ⟨a1, a2⟩; exact ⟨by omega, a2⟩
      · rw [pu_n (by omega), px_u_in]
        exact Or.inr ⟨rfl, p, by omega, hy, hg0⟩
theorem f_come (hS : SR sh R) (hs : s ≤ 20) {M0 : px_M} (hW : Wd M0 w wr an ws D) {t : Nat} (ht : t ≤ 40) : ∀ (m p : Nat) (Mx : px_M), p + m = 18432 → F2i wr ws an D s p0 M0 Mx t p →
    ∃ My, lpf (fun a : Int32 × px_M => f_X12_findLeast_95 sh a.2 R (nI w) (nI s) (nI t) a.1) (nI p, Mx) = some My ∧ F2i wr ws an D s p0 M0 My t 18432 := by
  intro m
  induction m with
  | zero =>
    intro p Mx hp h
    obtain rfl : p = 18432 := by omega
    refine ⟨Mx, lpf_end ?_, h⟩
    show f_X12_findLeast_95 sh Mx R (nI w) (nI s) (nI t) (nI 18432) = _
    unfold f_X12_findLeast_95
    rw [if_pos (by decide)]
  | succ m ih =>
    intro p Mx hp h
    obtain ⟨My, g1, g2⟩ := f_come1 hS hs hW ht (show p < 18432 by omega) h
    rw [lpf_go (body := fun a : Int32 × px_M => f_X12_findLeast_95 sh a.2 R (nI w) (nI s) (nI t) a.1) (a := (nI p, Mx)) g1]
    exact ih (p + 1) My (by omega) g2
/-- behind the search forwards -/
def F3 (wr ws an D s p0 : Nat) (M0 Mx : px_M) : Prop := eqF M0 Mx ∧ ((Mx 73 34 = -1 ∧ ∀ t, t ≤ 40 → ∀ q, Rc s p0 t q → ¬ Gd wr ws an D s 0 t q) ∨ ∃ l, l ≤ 40 ∧ Mx 73 34 = nI l ∧ (∀ t, t < l → ∀ q, Rc s p0 t q → ¬ Gd wr ws an D s 0 t q) ∧ (∃ q, Rc s p0 l q ∧ Gd wr ws an D s 0 l q) ∧ (∀ u, u ≤ l → ∀ q, q < 18432 → (Mx (94 + u) q ≠ 0 ↔ Rc s p0 u q)) ∧ (∀ u, u < l → ∀ q, q < 18432 → Mx (136 + u) q = 0) ∧ ∀ q, q < 18432 → (Mx (136 + l) q ≠ 0 ↔ Rc s p0 l q ∧ Gd wr ws an D s 0 l q))
theorem f_fwd (hS : SR sh R) (hs : s ≤ 20) (hp0 : p0 < 18432) {M0 : px_M} (hW : Wd M0 w wr an ws D) : ∀ (m t : Nat) (Mx : px_M), t + m = 41 → eqF M0 Mx → Mx 73 34 = -1 → (∀ u, u ≤ t → u ≤ 40 → ∀ q, q < 18432 → (Mx (94 + u) q ≠ 0 ↔ Rc s p0 u q)) → (∀ u, t < u → u ≤ 40 → ∀ q, q < 18432 → Mx (94 + u) q = 0) → (∀ u, u ≤ 40 → ∀ q, q < 18432 → Mx (136 + u) q = 0) → (∀ u, u < t → ∀ q, Rc s p0 u q → ¬ Gd wr ws an D s 0 u q) →
    ∃ My, lpf (fun a : Int32 × px_M => f_X12_findLeast_78 sh a.2 R (nI w) (nI s) a.1) (nI t, Mx) = some My ∧ F3 wr ws an D s p0 M0 My := by
  intro m
  induction m with
  | zero =>
    intro t Mx ht i1 i2 i3 i4 i5 i6
    obtain rfl : t = 41 := by omega
    refine ⟨Mx, lpf_end ?_, i1, Or.inl ⟨i2, fun t ht => i6 t (by omega)⟩⟩
    show f_X12_findLeast_78 sh Mx R (nI w) (nI s) (nI 41) = _
    unfold f_X12_findLeast_78
    rw [if_pos (by decide)]
  | succ m ih =>
    intro t Mx ht i1 i2 i3 i4 i5 i6
    have h40 : t ≤ 40 := by omega
    obtain ⟨My, g1, g2⟩ := f_come (p0 := p0) hS hs hW h40 18432 0 Mx (by omega) ⟨i1, fun u hu => i3 u hu (by omega), fun h4 q hq => by
        rw [show 95 + t = 94 + (t + 1) by omega, i4 (t + 1) (by omega) (by omega) q hq]
        exact ⟨fun z => absurd rfl z, fun ⟨p', a, _⟩ => absurd a (by omega)⟩, fun u h1 h2 => i4 u (by omega) h2, fun u h1 _ => i5 u h1, fun q hq => by
        rw [i5 t h40 q hq]
        exact ⟨fun z => absurd rfl z, fun ⟨a, _⟩ => absurd a (by omega)⟩, Or.inl ⟨i2, fun q hq => absurd hq (by omega)⟩⟩
    obtain ⟨j1, j2, j3, j4, j5, j6, j7⟩ := g2
    have hb : f_X12_findLeast_78 sh Mx R (nI w) (nI s) (nI t) = some (.inl (nI (t + 1), My)) := by
      unfold f_X12_findLeast_78
      rw [if_neg (show ¬ 40 < nI t by rw [show (40 : Int32) = nI 40 from rfl, nI_ltI (by decide) (by omega)]; omega), if_pos i2, show lpf (fun a : Int32 × px_M => f_X12_findLeast_95 sh a.2 R (nI w) (nI s) (nI t) a.1) (0, Mx) = _ from g1, bd1_e, nI_1]
    rw [lpf_go (body := fun a : Int32 × px_M => f_X12_findLeast_78 sh a.2 R (nI w) (nI s) a.1) (a := (nI t, Mx)) hb]
    rcases j7 with ⟨a1, a2⟩ | ⟨a1, q, a2, a3, a4⟩
    · refine ih (t + 1) My (by omega) j1 a1 (fun u h1 h2 q hq => ?_) (fun u h1 h2 q hq => j4 u h1 h2 q hq) (fun u h1 q hq => ?_) (fun u h1 q hq => ?_)
      · by_cases e : u = t + 1
        · subst e
          rw [show 94 + (t + 1) = 95 + t by omega, j3 (by omega) q hq]
          constructor
          · rintro ⟨p', b1, b2, k, b3, b4⟩; exact ⟨p', k, b2, b3, b4⟩
          · rintro ⟨p', k, b2, b3, b4⟩; exact ⟨p', Rc_b hp0 t p' b2, b2, k, b3, b4⟩
        · exact j2 u (by omega) q hq
      · by_cases e : u = t
        · subst e
          exact Classical.byContradiction fun z => by
            obtain ⟨b1, b2, b3⟩ := (j6 q hq).mp z
            exact a2 q b1 b2 b3
        · exact j5 u h1 e q hq
      · by_cases e : u = t
        · subst e; exact a2 q (Rc_b hp0 u q hq) hq
        · exact i6 u (by omega) q hq
    · refine ⟨My, lpf_end ?_, j1, Or.inr ⟨t, h40, a1, i6, ⟨q, a3, a4⟩, j2, fun u h1 => j5 u (by omega) (by omega), fun q hq => ?_⟩⟩
      · show f_X12_findLeast_78 sh My R (nI w) (nI s) (nI (t + 1)) = _
        unfold f_X12_findLeast_78
        rw [a1]
        have : ¬ nI t = -1 := fun z => by
          have : (nI t).toInt = (-1 : Int32).toInt := by rw [z]
          rw [nI_toInt (by omega), show (-1 : Int32).toInt = -1 by decide] at this
          omega
        rw [if_neg this, ite_self]
      · rw [j6 q hq]
        exact ⟨fun z => z.2, fun z => ⟨hq, z⟩⟩
end COME
