/-! the reference eliminates a string's column -/
theorem cl_n : ∀ st, st < 64 → ∀ nt, nt < 7 → st < 2 ^ nt → cN st nt = (cl st).length := by decide +kernel
section MSOLVE
variable {sh : px_Sh} {R : px_R} {A : Nat → Nat → Int} {st nt : Nat}
def RI (A : Nat → Nat → Int) (st s : Nat) (P : List Nat) (u : Nat) (T : Nat → Nat → Int) (L : px_L) (Mx : px_M) : Prop :=
  (P.Nodup ∧ (∀ r, r ∈ P → r < 12) ∧ P.length = cN st s ∧ PC A P (Sx st (cN st s))) ∧ (u < 4096 ∧ ∀ i, i < 12 → (u.testBit i = true ↔ i ∈ P)) ∧ (∀ x, x < 12 → ∀ k, k < 7 → L (200 + x) k = lI (T x k)) ∧ (∀ x, x < 12 → PrI A st (cN st s) P x (T x) ∧ RwI A st x (T x)) ∧ ∀ t, t < s → st.testBit t = true → Mx 212 t = nI (P.getD (cN st s - 1 - cN st t) 0)
theorem m_solve1 (hS : SR sh R) (hk : ∀ k, k < 6 → Spa A k) (h6 : ∀ x, (A x 6).natAbs ≤ 100) (hnt : nt ≤ 6) (hst : st < 2 ^ nt) {s : Nat} (hs : s < nt) {P : List Nat} {u : Nat} {T : Nat → Nat → Int} {L : px_L} {Mx : px_M} (h58 : Mx 73 58 = nI nt) (hI : RI A st s P u T L Mx) :
    (f_X12_solves_10 sh Mx L R (nI st) (nI u) (nI s) = some (.inr (.inl (Mx, L))) ∧ st.testBit s = true ∧ ∀ x, x < 12 → ¬ x ∈ P → dt A (s :: Sx st (cN st s)) (x :: P) = 0) ∨
    ∃ P' u' T' L' Mx', f_X12_solves_10 sh Mx L R (nI st) (nI u) (nI s) = some (.inl (nI u', nI (s + 1), Mx', L')) ∧ RI A st (s + 1) P' u' T' L' Mx' ∧ (∀ c j, ¬ (c = 212 ∧ j = s) → Mx' c j = Mx c j) ∧ ∀ a j, a < 200 ∨ 211 < a → L' a j = L a j := by
  have hst64 : st < 64 := Nat.lt_of_lt_of_le hst (Nat.pow_le_pow_right (by decide) hnt)
  obtain ⟨t1, t2, t3, t4⟩ := cl_t st hst64
  obtain ⟨⟨p1, p2, p3, p4⟩, ⟨u1, u2⟩, hL, hPR, hpv⟩ := hI
  have hcn : cN st (s + 1) = cN st s + (if st.testBit s = true then 1 else 0) := rfl
  by_cases hb : st.testBit s = true
  · rw [if_pos hb] at hcn
    obtain ⟨k1, k2⟩ := t3 s (by omega) hb
    have hkap : kap st (cN st s) = s := k1
    obtain ⟨c, ec⟩ : ∃ c, c = cN st s := ⟨_, rfl⟩
    rw [← ec] at p3 p4 hPR hcn hkap k2 ⊢
    have hc5 : c ≤ 5 := by omega
    have hbd : ∀ x, x < 12 → ∀ k, k ≤ 6 → (T x k).natAbs ≤ 4680000000 ∧ (k < 6 → (T x k).natAbs ≤ 312000000) := fun x hx k hk2 => (row_b hk h6 hst64 (by omega) p1 p3 (hPR x hx).1 (hPR x hx).2 hk2).1 hc5
    have hz : ∀ x, x < 12 → (T x s = 0 ↔ Vv A st c P x s = 0) := by
      intro x hx
      obtain ⟨a, b, a0, b0, hab⟩ := (hPR x hx).1
      have := hab s (Or.inr ⟨by omega, hb⟩)
      constructor
      · intro e
        rw [e, Int.mul_zero] at this
        exact (Int.mul_eq_zero.mp this).resolve_left b0
      · intro e
        rw [e, Int.mul_zero] at this
        exact (Int.mul_eq_zero.mp this.symm).resolve_left a0
    have F := lpf_find (body := fun a : Int32 => f_X12_solves_34 sh Mx L R (nI st) (nI u) (nI s) a) (fun i => nI i) 12 (fun i => ¬ i ∈ P ∧ T i s ≠ 0) (fun i => nI i) (nI 12)
      (fun i hi hc => by
        obtain ⟨r1, r2⟩ := R199 hS hi
        show f_X12_solves_34 sh Mx L R (nI st) (nI u) (nI s) (nI i) = _
        unfold f_X12_solves_34 f_X12_solves_66
        rw [if_neg (show ¬ 12 ≤ nI i from nI_ge (b := 12) hi (by decide)), ifi ((bit_iff (show u < 2 ^ 31 by omega) (show i < 32 by omega)).trans (u2 i hi)), nI_1]
        by_cases e : i ∈ P
        · rw [if_pos e]
        · rw [if_neg e, ok_t (ix_k hi (by decide)), nI_clamp (show i < 2 ^ 31 by omega), r1, bd1_e, ok_t (xk_t r2 (ix_k (show s < 7 by omega) (by decide))), nI_clamp (show s < 2 ^ 31 by omega), hL i hi s (by omega), if_pos ((lc_0 (rg_n (hbd i hi s (by omega)).1 (by decide))).mpr (Classical.not_not.mp fun z => hc ⟨e, z⟩))])
      (fun i hi hc => by
        obtain ⟨r1, r2⟩ := R199 hS hi
        show f_X12_solves_34 sh Mx L R (nI st) (nI u) (nI s) (nI i) = _
        unfold f_X12_solves_34 f_X12_solves_66
        rw [if_neg (show ¬ 12 ≤ nI i from nI_ge (b := 12) hi (by decide)), ifi ((bit_iff (show u < 2 ^ 31 by omega) (show i < 32 by omega)).trans (u2 i hi)), if_neg hc.1, ok_t (ix_k hi (by decide)), nI_clamp (show i < 2 ^ 31 by omega), r1, bd1_e, ok_t (xk_t r2 (ix_k (show s < 7 by omega) (by decide))), nI_clamp (show s < 2 ^ 31 by omega), hL i hi s (by omega), if_neg (fun z => hc.2 ((lc_0 (rg_n (hbd i hi s (by omega)).1 (by decide))).mp z))])
      (by
        show f_X12_solves_34 sh Mx L R (nI st) (nI u) (nI s) (nI 12) = _
        unfold f_X12_solves_34
        rw [if_pos (by decide)]) 12 0 (by omega)
    have hbit0 : ¬ ((nI st >>> (nI s &&& 31)) &&& 1 = 0) := by
      rw [bit1 (show st < 2 ^ 31 by omega) (show s < 32 by omega), (tb_iff st s).mp hb]
      decide
    rcases F with ⟨F1, F2⟩ | ⟨r, r0, r1, r2, r3, F1⟩
    · left
      refine ⟨?_, hb, fun x hx hxP => ?_⟩
      · unfold f_X12_solves_10
        rw [h58, if_neg (nI_ge hs (by omega)), if_neg hbit0, show (0 : Int32) = nI 0 from rfl, F1, bd1_e, if_pos (show nI 12 = 12 from rfl)]
      · have h0 : T x s = 0 := Classical.not_not.mp fun z => F2 x (by omega) hx ⟨hxP, z⟩
        have := (hz x hx).mp h0
        unfold Vv at this
        rw [if_neg hxP] at this
        exact this
    · right
      have hVr : Vv A st c P r (kap st c) ≠ 0 := by
        rw [hkap]
        exact fun z => r2.2 ((hz r r1).mpr z)
      obtain ⟨V1, V2, V3⟩ := Vv_step p4 r2.1 hVr
      rw [hkap] at hVr V3
      have hD := PC_d A p4
      obtain ⟨ar, br, ar0, br0, habr⟩ := (hPR r r1).1
      have K : ∀ (n x : Nat) (Tx : Nat → Nat → Int) (Lx : px_L), x + n = 12 → (∀ y, y < 12 → ∀ k, k < 7 → Lx (200 + y) k = lI (Tx y k)) → (∀ y, y < 12 → (y < x → PrI A st (c + 1) (r :: P) y (Tx y) ∧ RwI A st y (Tx y)) ∧ (x ≤ y → Tx y = T y)) → Tx r = T r → (∀ a j, a < 200 ∨ 211 < a → Lx a j = L a j) →
          ∃ (T' : Nat → Nat → Int) (L' : px_L), lpf (fun a : Int32 × px_L => f_X12_solves_100 sh (px_u Mx 212 s (nI r)) a.2 R (nI st) (nI (u ||| 2 ^ r)) (nI s) (nI r) a.1) (nI x, Lx) = some L' ∧ (∀ y, y < 12 → ∀ k, k < 7 → L' (200 + y) k = lI (T' y k)) ∧ (∀ y, y < 12 → PrI A st (c + 1) (r :: P) y (T' y) ∧ RwI A st y (T' y)) ∧ ∀ a j, a < 200 ∨ 211 < a → L' a j = L a j := by
        intro n
        induction n with
        | zero =>
          intro x Tx Lx hx a1 a2 a3 a4
          obtain rfl : x = 12 := by omega
          refine ⟨Tx, Lx, lpf_end ?_, a1, fun y hy => (a2 y hy).1 hy, a4⟩
          show f_X12_solves_100 sh (px_u Mx 212 s (nI r)) Lx R (nI st) (nI (u ||| 2 ^ r)) (nI s) (nI r) (nI 12) = _
          unfold f_X12_solves_100
          rw [if_pos (by decide)]
        | succ n ih =>
          intro x Tx Lx hx a1 a2 a3 a4
          have hTx : Tx x = T x := (a2 x (by omega)).2 (Nat.le_refl _)
          obtain ⟨x1, x2⟩ := R199 hS (i := x) (by omega)
          obtain ⟨a, b, a0, b0, hab⟩ := (hPR x (by omega)).1
          have keep : f_X12_solves_100 sh (px_u Mx 212 s (nI r)) Lx R (nI st) (nI (u ||| 2 ^ r)) (nI s) (nI r) (nI x) = some (.inl (nI (x + 1), Lx)) → (PrI A st (c + 1) (r :: P) x (T x)) → ∃ (T' : Nat → Nat → Int) (L' : px_L), lpf (fun a : Int32 × px_L => f_X12_solves_100 sh (px_u Mx 212 s (nI r)) a.2 R (nI st) (nI (u ||| 2 ^ r)) (nI s) (nI r) a.1) (nI x, Lx) = some L' ∧ (∀ y, y < 12 → ∀ k, k < 7 → L' (200 + y) k = lI (T' y k)) ∧ (∀ y, y < 12 → PrI A st (c + 1) (r :: P) y (T' y) ∧ RwI A st y (T' y)) ∧ ∀ a j, a < 200 ∨ 211 < a → L' a j = L a j := by
            intro hg hpr
            rw [lpf_go (body := fun a : Int32 × px_L => f_X12_solves_100 sh (px_u Mx 212 s (nI r)) a.2 R (nI st) (nI (u ||| 2 ^ r)) (nI s) (nI r) a.1) (a := (nI x, Lx)) hg]
            refine ih (x + 1) Tx Lx (by omega) a1 (fun y hy => ⟨fun hyx => ?_, fun hyx => (a2 y hy).2 (by omega)⟩) a3 a4
            by_cases e : y = x
            · subst e
              rw [hTx]
              exact ⟨hpr, (hPR y hy).2⟩
            · exact (a2 y hy).1 (by omega)
          by_cases exr : x = r
          · refine keep ?_ ?_
            · unfold f_X12_solves_100 f_X12_solves_256
              rw [if_neg (show ¬ 12 ≤ nI x from nI_ge (b := 12) (by omega) (by decide)), if_pos (by rw [exr]), nI_1]
            · subst exr
              exact ⟨a, b, a0, b0, fun k hk2 => by rw [V2]; exact hab k hk2⟩
          · by_cases hf : T x s = 0
            · refine keep ?_ ?_
              · unfold f_X12_solves_100 f_X12_solves_256
                rw [if_neg (show ¬ 12 ≤ nI x from nI_ge (b := 12) (by omega) (by decide)), if_neg (nI_eq' (by omega) (by omega) exr), ok_t (ix_k (show x < 12 by omega) (by decide)), nI_clamp (show x < 2 ^ 31 by omega), x1, bd1_e, ok_t (xk_t x2 (ix_k (show s < 7 by omega) (by decide))), nI_clamp (show s < 2 ^ 31 by omega), a1 x (by omega) s (by omega), hTx, hf, if_pos ((lc_0 rg0).mpr rfl), nI_1]
              · have hV0 := (hz x (by omega)).mp hf
                refine ⟨Vv A st c P r s * a, b * dt A (Sx st c) P, ?_, ?_, fun k hk2 => ?_⟩
                · intro z
                  rcases Int.mul_eq_zero.mp z with z | z
                  · exact hVr z
                  · exact a0 z
                · intro z
                  rcases Int.mul_eq_zero.mp z with z | z
                  · exact b0 z
                  · exact hD z
                · have e1 := V3 x k exr
                  rw [hV0, Int.zero_mul, Int.sub_zero] at e1
                  have e2 := hab k hk2
                  rw [Int.mul_assoc, e1, Int.mul_left_comm, e2, Int.mul_assoc]
            · obtain ⟨L', w, g, g1, g2, g3, g4, g5, g6, g7⟩ := m_one (M := px_u Mx 212 s (nI r)) hS hst64 (x := x) (r := r) (s := s) (by omega) r1 exr (by omega) (L := Lx) (t := T x) (u := T r) (fun k hk7 => by rw [a1 x (by omega) k hk7, hTx]) (fun k hk7 => by rw [a1 r r1 k hk7, a3]) r2.2 hf ((hbd r r1 s (by omega)).2 (by omega)) ((hbd x (by omega) s (by omega)).2 (by omega)) (fun k hk7 => (hbd x (by omega) k (by omega)).1) (fun k hk7 => (hbd r r1 k (by omega)).1) (nI (u ||| 2 ^ r))
              rw [lpf_go (body := fun a : Int32 × px_L => f_X12_solves_100 sh (px_u Mx 212 s (nI r)) a.2 R (nI st) (nI (u ||| 2 ^ r)) (nI s) (nI r) a.1) (a := (nI x, Lx)) g1]
              refine ih (x + 1) (fun y => if y = x then w else Tx y) L' (by omega) (fun y hy k hk7 => ?_) (fun y hy => ⟨fun hyx => ?_, fun hyx => ?_⟩) ?_ (fun a' j ha => by rw [g3 a' j (by omega)]; exact a4 a' j ha)
              · by_cases e : y = x
                · subst e; rw [if_pos rfl]; exact g2 k hk7
                · rw [if_neg e, g3 _ _ (by omega)]; exact a1 y hy k hk7
              · by_cases e : y = x
                · subst e
                  rw [if_pos rfl]
                  refine ⟨⟨ar * a * g, br * b * dt A (Sx st c) P, ?_, ?_, fun k hk2 => ?_⟩, Or.inr ⟨g4, g6⟩⟩
                  · intro z
                    rcases Int.mul_eq_zero.mp z with z | z
                    · rcases Int.mul_eq_zero.mp z with z | z
                      · exact ar0 z
                      · exact a0 z
                    · exact g5 z
                  · intro z
                    rcases Int.mul_eq_zero.mp z with z | z
                    · rcases Int.mul_eq_zero.mp z with z | z
                      · exact br0 z
                      · exact b0 z
                    · exact hD z
                  · have hk7 : k < 7 := by rcases hk2 with h | h <;> omega
                    have hcs : col st s := Or.inr ⟨by omega, hb⟩
                    have e1 := V3 y k exr
                    have e2 := hab k hk2
                    have e3 := hab s hcs
                    have e4 := habr k hk2
                    have e5 := habr s hcs
                    have e6 := g7 k hk7 hk2
                    have q1 : br * b * dt A (Sx st c) P * Vv A st (c + 1) (r :: P) y k = (br * Vv A st c P r s) * (b * Vv A st c P y k) - (b * Vv A st c P y s) * (br * Vv A st c P r k) := by
                      rw [Int.mul_assoc, e1]
                      grind
                    rw [q1, e2, e3, e4, e5]
                    have q2 : ar * T r s * (a * T y k) - a * T y s * (ar * T r k) = ar * a * (T r s * T y k - T y s * T r k) := by grind
                    rw [q2, e6]
                    grind
                · rw [if_neg e]; exact (a2 y hy).1 (by omega)
              · rw [if_neg (by omega)]; exact (a2 y hy).2 (by omega)
              · rw [if_neg (fun z => exr z.symm)]; exact a3
      obtain ⟨T', L', z1, z2, z3, z4⟩ := K 12 0 T L (by omega) hL (fun y hy => ⟨fun h => absurd h (by omega), fun _ => rfl⟩) rfl (fun _ _ _ => rfl)
      refine ⟨r :: P, u ||| 2 ^ r, T', L', px_u Mx 212 s (nI r), ?_, ⟨⟨List.nodup_cons.mpr ⟨r2.1, p1⟩, fun x hx => ?_, ?_, ?_⟩, ⟨?_, fun i hi => ?_⟩, z2, ?_, fun t ht htb => ?_⟩, fun c' j hn => pu_n hn, z4⟩
      · unfold f_X12_solves_10 f_X12_solves_262
        rw [h58, if_neg (nI_ge hs (by omega)), if_neg hbit0, show (0 : Int32) = nI 0 from rfl, F1, bd1_e, if_neg (show ¬ nI r = 12 from nI_eq' (b := 12) (by omega) (by decide) (by omega)), shl1 r (by omega), orI, nm_u, ok_t (ix_k (show s < 6 by omega) (by decide)), nI_clamp (show s < 2 ^ 31 by omega), nm_u, z1, bd1_e, nI_1]
      · rcases List.mem_cons.mp hx with rfl | hx
        · exact r1
        · exact p2 x hx
      · rw [hcn, List.length_cons, p3]
      · rw [hcn]; exact V1
      · have h1 : 2 ^ r < 2 ^ 12 := Nat.pow_lt_pow_right (by decide) r1
        have := Nat.or_lt_two_pow (n := 12) (show u < 2 ^ 12 by omega) h1
        omega
      · rw [Nat.testBit_or, Nat.testBit_two_pow, Bool.or_eq_true, u2 i hi, List.mem_cons]
        simp only [decide_eq_true_eq]
        constructor
        · rintro (h | h)
          · exact Or.inr h
          · exact Or.inl h.symm
        · rintro (h | h)
          · exact Or.inr h.symm
          · exact Or.inl h
      · rw [hcn]; exact z3
      · rw [hcn]
        by_cases e : t = s
        · subst e
          rw [px_u_in, ← ec, show c + 1 - 1 - c = 0 by omega]
          rfl
        · rw [pu_n (fun z => e z.2), hpv t (by omega) htb, ← ec]
          have hlt := cN_lt (st := st) (show t < s by omega) htb
          rw [show c + 1 - 1 - cN st t = (c - 1 - cN st t) + 1 by omega]
          rfl
  · right
    rw [if_neg hb, Nat.add_zero] at hcn
    have hbit0 : (nI st >>> (nI s &&& 31)) &&& 1 = 0 := by
      rw [bit1 (show st < 2 ^ 31 by omega) (show s < 32 by omega)]
      have h2 : ¬ st / 2 ^ s % 2 = 1 := fun z => hb ((tb_iff st s).mpr z)
      rw [show st / 2 ^ s % 2 = 0 by omega]
      rfl
    refine ⟨P, u, T, L, Mx, ?_, ⟨⟨p1, p2, by rw [hcn]; exact p3, by rw [hcn]; exact p4⟩, ⟨u1, u2⟩, hL, by rw [hcn]; exact hPR, fun t ht htb => ?_⟩, fun _ _ _ => rfl, fun _ _ _ => rfl⟩
    · unfold f_X12_solves_10 f_X12_solves_262
      rw [h58, if_neg (nI_ge hs (by omega)), if_pos hbit0, nI_1]
    · rw [hcn]
      by_cases e : t = s
      · subst e; exact absurd htb hb
      · exact hpv t (by omega) htb
end MSOLVE
