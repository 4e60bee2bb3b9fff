/-! the reference writes its rows -/
section MROWS
variable {sh : px_Sh} {M Mx : px_M} {R : px_R} {nk nt : Nat} {dr : Option Nat}
/-- the reference's cells of the net, as they stand in M -/
def eqM (M Mx : px_M) : Prop := ∀ c j, (192 ≤ c ∧ c ≤ 198) ∨ (c = 73 ∧ (j = 57 ∨ j = 58)) → Mx c j = M c j
theorem m_pulls (hN : NetS M nk nt) (hE : eqM M Mx) {s kn ax : Nat} (hs : s < nt) (hk : kn < 6) (hx : ax < 2) : f_X12_pulls Mx (nI s) (nI kn) (nI ax) = some (wy M s kn ax) := by
  obtain ⟨h1, h2, h3, h4⟩ := hN
  obtain ⟨-, a, b, ⟨a1, b1, hab⟩, e1, e2⟩ := h4 s hs
  have m196 : Mx 196 s = nI a := by rw [hE 196 s (by omega), e1]
  have m197 : Mx 197 s = nI b := by rw [hE 197 s (by omega), e2]
  have hv : ∀ c j, (c = 192 ∨ c = 193) → Mx c j = M c j := fun c j h => hE c j (by omega)
  have h47 : ∀ z : Nat, z < 6 → f_X12_pulls_47 Mx (nI kn) (nI ax) (nI z) = some (if ax = 0 then M 192 z - M 192 kn else M 193 z - M 193 kn) := by
    intro z hz
    unfold f_X12_pulls_47 f_X12_pulls_84
    simp only [ok_t (ix_k hz (show 6 < 2 ^ 31 by decide)), ok_t (ix_k hk (show 6 < 2 ^ 31 by decide))]
    rw [nI_clamp (show z < 2 ^ 31 by omega), nI_clamp (show kn < 2 ^ 31 by omega), hv 192 z (Or.inl rfl), hv 192 kn (Or.inl rfl), hv 193 z (Or.inr rfl), hv 193 kn (Or.inr rfl)]
    obtain rfl | rfl : ax = 0 ∨ ax = 1 := by omega
    · rw [if_pos (show nI 0 = 0 from rfl), if_pos rfl]
    · rw [if_neg (show ¬ nI 1 = 0 by decide), if_neg (by decide)]
  unfold f_X12_pulls f_X12_pulls_22 wy
  simp only [ok_t (ix_k (show s < 6 by omega) (show 6 < 2 ^ 31 by decide))]
  rw [nI_clamp (show s < 2 ^ 31 by omega), m196, m197, e1, e2, nI_clamp (show a < 2 ^ 31 by omega), nI_clamp (show b < 2 ^ 31 by omega), h47 b (by omega), h47 a (by omega)]
  by_cases c1 : nI a = nI kn
  · have : a = kn := (nI_eq (by omega) (by omega)).mp c1
    subst this
    rw [if_pos c1, if_pos c1, if_pos c1]
  · rw [if_neg c1, if_neg c1]
    by_cases c2 : nI b = nI kn
    · have : b = kn := (nI_eq (by omega) (by omega)).mp c2
      subst this
      rw [if_pos c2, if_neg c1, if_pos c2]
      have sw : ∀ x y : Int32, x - y = -(y - x) := fun x y => by grind
      split
      · rw [sw]
      · rw [sw]
    · rw [if_neg c2, if_neg c1, if_neg c2]
theorem R199 (hS : SR sh R) {i : Nat} (hi : i < 12) : R 199 i = some (200 + i) ∧ sh (200 + i) = some (14, 7) := by
  obtain rfl | rfl | rfl | rfl | rfl | rfl | rfl | rfl | rfl | rfl | rfl | rfl : i = 0 ∨ i = 1 ∨ i = 2 ∨ i = 3 ∨ i = 4 ∨ i = 5 ∨ i = 6 ∨ i = 7 ∨ i = 8 ∨ i = 9 ∨ i = 10 ∨ i = 11 := by omega
  all_goals exact ⟨hS.2 _ _ _ (by decide), hS.1 _ (by decide)⟩
theorem m_row (hS : SR sh R) (hN : NetS M nk nt) (hE : eqM M Mx) {p1 : Int32} (hp : (dr = none ∧ p1 = -1) ∨ ∃ s, s < nt ∧ dr = some s ∧ p1 = nI s) {kn ax : Nat} (hk : kn < 6) (hx : ax < 2) (L : px_L) :
    ∃ L', f_X12_writeRows_10 sh Mx L R p1 (nI kn) (nI ax) = some (.inl (nI (ax + 1), L')) ∧ (∀ k, k < 7 → L' (200 + (2 * kn + ax)) k = lI (nA M nk nt dr (2 * kn + ax) k)) ∧ ∀ a j, a ≠ 200 + (2 * kn + ax) → L' a j = L a j := by
  have h6 := hN.1
  obtain ⟨r1, r2⟩ := R199 hS (i := 2 * kn + ax) (by omega)
  have hxx : (2 * kn + ax) / 2 = kn ∧ (2 * kn + ax) % 2 = ax := by omega
  have e58 : Mx 73 58 = nI nt := by rw [hE 73 58 (by omega)]; exact hN.2.1.2.2.2
  have e57 : Mx 73 57 = nI nk := by rw [hE 73 57 (by omega)]; exact hN.2.1.2.1
  have idx : 2 * nI kn + nI ax = nI (2 * kn + ax) := by rw [show (2 : Int32) = nI 2 from rfl, pk_mul, nI_add]
  -- a row with or without entries
  have main : ∀ z0 : Int32, (z0 = 1 ∧ frk M nk kn) ∨ (z0 = 0 ∧ ¬ frk M nk kn) → ∃ L', f_X12_writeRows_37 sh Mx L R p1 (nI kn) (nI ax) z0 = some (.inl (nI (ax + 1), L')) ∧ (∀ k, k < 7 → L' (200 + (2 * kn + ax)) k = lI (nA M nk nt dr (2 * kn + ax) k)) ∧ ∀ a j, a ≠ 200 + (2 * kn + ax) → L' a j = L a j := by
    intro z0 hz0
    have K := lpf_for (body := fun a : Int32 × px_L => f_X12_writeRows_42 sh Mx a.2 R p1 (nI kn) (nI ax) z0 a.1) (fun k (L' : px_L) => (nI k, L')) (fun k L' => px_u L' (200 + (2 * kn + ax)) k (lI (nA M nk nt dr (2 * kn + ax) k))) (fun k L' => (∀ j, j < k → L' (200 + (2 * kn + ax)) j = lI (nA M nk nt dr (2 * kn + ax) j)) ∧ ∀ a j, a ≠ 200 + (2 * kn + ax) → L' a j = L a j) (fun L' => L') 6
      (fun k L' hk6 hP => by
        obtain ⟨P1, P2⟩ := hP
        refine ⟨?_, fun j hj => ?_, fun a j ha => ?_⟩
        · show f_X12_writeRows_42 sh Mx L' R p1 (nI kn) (nI ax) z0 (nI k) = _
          unfold f_X12_writeRows_42 f_X12_writeRows_87 f_X12_writeRows_88
          rw [if_neg (show ¬ 6 ≤ nI k from nI_ge (b := 6) hk6 (by decide)), nm_u, idx, ok_t (ix_k (show 2 * kn + ax < 12 by omega) (by decide)), nI_clamp (show 2 * kn + ax < 2 ^ 31 by omega), r1, bd1_e, e58, ifi (nI_leI (a := nt) (b := k) (by omega) (by omega)), ok_t (xk_t r2 (ix_k (show k < 7 by omega) (by decide))), nI_clamp (show k < 2 ^ 31 by omega), nm_u, nI_1]
          rcases hz0 with ⟨rfl, f⟩ | ⟨rfl, f⟩
          · rw [if_neg (show ¬ (1 : Int32) = 0 by decide), nA_f (by rw [hxx.1]; exact f)]
            by_cases e : nt ≤ k
            · rw [if_pos e, if_neg (by omega), if_neg (by omega)]
              rfl
            · rw [if_neg e, if_pos (by omega), m_pulls hN hE (by omega) hk hx, bd1_e, ok_t (xk_t r2 (ix_k (show k < 7 by omega) (by decide))), nm_u, hxx.1, hxx.2]
              rfl
          · rw [if_pos rfl, nA_n (by rw [hxx.1]; exact f)]
            rfl
        · by_cases e : j = k
          · subst e; exact px_u_in _ _ _ _
          · rw [pu_n (fun z => e z.2)]; exact P1 j (by omega)
        · rw [pu_n (fun z => ha z.1)]; exact P2 a j ha)
      (fun L' _ => by
        show f_X12_writeRows_42 sh Mx L' R p1 (nI kn) (nI ax) z0 (nI 6) = _
        unfold f_X12_writeRows_42
        rw [if_pos (by decide)]) 6 0 L (by omega) ⟨fun j hj => absurd hj (by omega), fun _ _ _ => rfl⟩
    obtain ⟨K1, K2, K3⟩ := K
    obtain ⟨L1, eL1⟩ : ∃ L1, L1 = fld (fun k (L' : px_L) => px_u L' (200 + (2 * kn + ax)) k (lI (nA M nk nt dr (2 * kn + ax) k))) 0 6 L := ⟨_, rfl⟩
    rw [← eL1] at K1 K2 K3
    have fin : ∀ v : Int32, (frk M nk kn → v = rh M dr kn ax) → ∃ L', f_X12_writeRows_132 sh Mx L1 R p1 (nI kn) (nI ax) z0 v = some (.inl (nI (ax + 1), L')) ∧ (∀ k, k < 7 → L' (200 + (2 * kn + ax)) k = lI (nA M nk nt dr (2 * kn + ax) k)) ∧ ∀ a j, a ≠ 200 + (2 * kn + ax) → L' a j = L a j := by
      intro v hv
      refine ⟨px_u L1 (200 + (2 * kn + ax)) 6 (lI (nA M nk nt dr (2 * kn + ax) 6)), ?_, fun k hk7 => ?_, fun a j ha => by rw [pu_n (fun z => ha z.1)]; exact K3 a j ha⟩
      · unfold f_X12_writeRows_132 f_X12_writeRows_158
        rw [nm_u, idx, ok_t (ix_k (show 2 * kn + ax < 12 by omega) (by decide)), nI_clamp (show 2 * kn + ax < 2 ^ 31 by omega), r1, bd1_e, nI_1, ok_t (xk_t r2 (show ix 6 7 = true by decide)), nm_u, ok_t (xk_t r2 (show ix 6 7 = true by decide)), nm_u, show (6 : Int32).toNatClampNeg = 6 from rfl]
        rcases hz0 with ⟨rfl, f⟩ | ⟨rfl, f⟩
        · rw [if_neg (show ¬ (1 : Int32) = 0 by decide), nA_f (by rw [hxx.1]; exact f), if_neg (by omega), if_pos rfl, hxx.1, hxx.2, ← hv f]
          rfl
        · rw [if_pos rfl, nA_n (by rw [hxx.1]; exact f)]
          rfl
      · by_cases e : k = 6
        · subst e; exact px_u_in _ _ _ _
        · rw [pu_n (fun z => e z.2)]; exact K2 k (by omega)
    unfold f_X12_writeRows_37
    rw [show ((0, L) : Int32 × px_L) = (nI 0, L) from rfl, K1, bd1_e, nI_clamp (show kn < 2 ^ 31 by omega), hE 194 kn (by omega), hE 195 kn (by omega), ok_t (ix_k hk (by decide)), ok_t (ix_k hk (by decide))]
    rcases hp with ⟨d1, d2⟩ | ⟨s, d0, d1, d2⟩
    · rw [if_pos d2]
      obtain rfl | rfl : ax = 0 ∨ ax = 1 := by omega
      · rw [if_pos (show nI 0 = 0 from rfl)]
        exact fin _ (fun _ => by rw [d1]; rfl)
      · rw [if_neg (show ¬ nI 1 = 0 by decide)]
        exact fin _ (fun _ => by rw [d1]; rfl)
    · rw [if_neg (by rw [d2]; exact nI_ne1 (by omega)), d2, m_pulls hN hE d0 hk hx, bd1_e]
      rw [d2] at fin
      exact fin _ (fun _ => by rw [d1]; rfl)
  unfold f_X12_writeRows_10 f_X12_writeRows_36
  rw [if_neg (show ¬ 2 ≤ nI ax from nI_ge (b := 2) hx (by decide)), e57, ifi (nI_leI (a := nk) (b := kn) (by omega) (by omega)), ok_t (ix_k hk (by decide)), nI_clamp (show kn < 2 ^ 31 by omega), hE 198 kn (by omega)]
  by_cases c1 : nk ≤ kn
  · rw [if_pos c1]
    exact main 0 (Or.inr ⟨rfl, fun f => by have := f.1; omega⟩)
  · rw [if_neg c1]
    by_cases c2 : M 198 kn = 0
    · rw [if_pos c2]
      exact main 1 (Or.inl ⟨rfl, by omega, c2⟩)
    · rw [if_neg c2]
      exact main 0 (Or.inr ⟨rfl, fun f => c2 f.2⟩)
theorem m_rowsW (hS : SR sh R) (hN : NetS M nk nt) (hE : eqM M Mx) {p1 : Int32} (hp : (dr = none ∧ p1 = -1) ∨ ∃ s, s < nt ∧ dr = some s ∧ p1 = nI s) (L : px_L) :
    ∃ L', f_X12_writeRows sh Mx L R p1 = some L' ∧ (∀ x, x < 12 → ∀ k, k < 7 → L' (200 + x) k = lI (nA M nk nt dr x k)) ∧ ∀ a j, a < 200 ∨ 211 < a → L' a j = L a j := by
  have loop : ∀ (r i : Nat) (Lx : px_L), i + r = 6 → (∀ x, x < 2 * i → ∀ k, k < 7 → Lx (200 + x) k = lI (nA M nk nt dr x k)) → (∀ a j, a < 200 ∨ 211 < a → Lx a j = L a j) → ∃ L', lpf (fun a : Int32 × px_L => f_X12_writeRows_2 sh Mx a.2 R p1 a.1) (nI i, Lx) = some L' ∧ (∀ x, x < 12 → ∀ k, k < 7 → L' (200 + x) k = lI (nA M nk nt dr x k)) ∧ ∀ a j, a < 200 ∨ 211 < a → L' a j = L a j := by
    intro r
    induction r with
    | zero =>
      intro i Lx hi h1 h2
      obtain rfl : i = 6 := by omega
      refine ⟨Lx, lpf_end ?_, h1, h2⟩
      show f_X12_writeRows_2 sh Mx Lx R p1 (nI 6) = _
      unfold f_X12_writeRows_2
      rw [if_pos (by decide)]
    | succ r ih =>
      intro i Lx hi h1 h2
      obtain ⟨L1, a1, a2, a3⟩ := m_row hS hN hE hp (kn := i) (ax := 0) (by omega) (by omega) Lx
      obtain ⟨L2, b1, b2, b3⟩ := m_row hS hN hE hp (kn := i) (ax := 1) (by omega) (by omega) L1
      have hin : lpf (fun a : Int32 × px_L => f_X12_writeRows_10 sh Mx a.2 R p1 (nI i) a.1) (nI 0, Lx) = some L2 := by
        rw [lpf_go (body := fun a : Int32 × px_L => f_X12_writeRows_10 sh Mx a.2 R p1 (nI i) a.1) (a := (nI 0, Lx)) a1, lpf_go (body := fun a : Int32 × px_L => f_X12_writeRows_10 sh Mx a.2 R p1 (nI i) a.1) (a := (nI (0 + 1), L1)) b1]
        refine lpf_end ?_
        show f_X12_writeRows_10 sh Mx L2 R p1 (nI i) (nI 2) = _
        unfold f_X12_writeRows_10
        rw [if_pos (by decide)]
      have hb : (fun a : Int32 × px_L => f_X12_writeRows_2 sh Mx a.2 R p1 a.1) (nI i, Lx) = some (.inl (nI (i + 1), L2)) := by
        show f_X12_writeRows_2 sh Mx Lx R p1 (nI i) = _
        unfold f_X12_writeRows_2
        rw [if_neg (show ¬ 6 ≤ nI i from nI_ge (b := 6) (by omega) (by decide)), show ((0, Lx) : Int32 × px_L) = (nI 0, Lx) from rfl, hin, bd1_e, nI_1]
      rw [lpf_go hb]
      refine ih (i + 1) L2 (by omega) (fun x hx k hk => ?_) (fun a j ha => by rw [b3 a j (by omega), a3 a j (by omega)]; exact h2 a j ha)
      by_cases e1 : x = 2 * i + 1
      · subst e1; exact b2 k hk
      · rw [b3 _ _ (by omega)]
        by_cases e2 : x = 2 * i
        · subst e2; exact a2 k hk
        · rw [a3 _ _ (by omega)]; exact h1 x (by omega) k hk
  obtain ⟨L', g1, g2⟩ := loop 6 0 L (by omega) (fun x hx => absurd hx (by omega)) (fun _ _ _ => rfl)
  refine ⟨L', ?_, g2⟩
  unfold f_X12_writeRows
  rw [show ((0, L) : Int32 × px_L) = (nI 0, L) from rfl, g1, bd1_e]
end MROWS
