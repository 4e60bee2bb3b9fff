/-! the reference: whether a set solves, and its fractions -/
theorem Sx_get (st : Nat) : ∀ (n j : Nat), j < n → (Sx st n).getD j 0 = kap st (n - 1 - j)
  | 0, j, h => absurd h (by omega)
  | n + 1, 0, _ => by
    show kap st n = kap st (n + 1 - 1 - 0)
    congr 1
  | n + 1, j + 1, h => by
    show (Sx st n).getD j 0 = _
    rw [Sx_get st n j (by omega)]
    congr 1
    omega
theorem idx_get {P : List Nat} (h : P.Nodup) {j : Nat} (hj : j < P.length) : P.idxOf P[j] = j := by
  have h1 : P.idxOf P[j] < P.length := List.idxOf_lt_length_of_mem (List.getElem_mem hj)
  have h2 : P[P.idxOf P[j]] = P[j] := List.getElem_idxOf h1
  have hpw := List.pairwise_iff_getElem.mp h
  by_cases c1 : P.idxOf P[j] < j
  · exact absurd h2 (hpw _ _ h1 hj c1)
  · by_cases c2 : j < P.idxOf P[j]
    · exact absurd h2.symm (hpw _ _ hj h1 c2)
    · omega
section MSOLVES
variable {sh : px_Sh} {R : px_R} {A : Nat → Nat → Int} {st nt : Nat}
/-- a fraction of the stand -/
def Fr (A : Nat → Nat → Int) (st n : Nat) (P : List Nat) (t : Nat) (ab un : Int) : Prop := (0 < un ∧ 0 ≤ ab ∧ Nat.gcd ab.natAbs un.natAbs = 1) ∧ (st.testBit t = true → ab * dt A (Sx st n) P = un * Uj A (Sx st n) P (n - 1 - cN st t) 6) ∧ (¬ st.testBit t = true → ab = 0 ∧ un = 1)
theorem m_frac (hS : SR sh R) (hk : ∀ k, k < 6 → Spa A k) (h6 : ∀ x, (A x 6).natAbs ≤ 100) (hnt : nt ≤ 6) (hst : st < 2 ^ nt) {P : List Nat} {u : Nat} {T : Nat → Nat → Int} {L : px_L} {Mx : px_M} (h58 : Mx 73 58 = nI nt) (hI : RI A st nt P u T L Mx) :
    ∃ z L', bdS (lpf (fun a : Int32 × px_L => f_X12_solves_313 sh Mx a.2 R (nI st) a.1) (0, L)) (fun t_313_0 => some ((0 : Int32), Mx, t_313_0)) (fun u_313_0 => some (1, Mx, u_313_0)) = some (z, Mx, L') ∧ (∀ a j, a ≠ 213 → a ≠ 214 → L' a j = L a j) ∧ ((z = 0 ∧ ∃ j, j < (cl st).length ∧ Uj A (Sx st (cl st).length) P j 6 * dt A (Sx st (cl st).length) P < 0) ∨ (z = 1 ∧ ∃ ab un : Nat → Int, ∀ t, t < nt → L' 213 t = lI (ab t) ∧ L' 214 t = lI (un t) ∧ Fr A st (cl st).length P t (ab t) (un t))) := by
  have hst64 : st < 64 := Nat.lt_of_lt_of_le hst (Nat.pow_le_pow_right (by decide) hnt)
  obtain ⟨t1, t2, t3, t4⟩ := cl_t st hst64
  have hcn := cl_n st hst64 nt (by omega) hst
  obtain ⟨⟨p1, p2, p3, p4⟩, ⟨u1, u2⟩, hL, hPR, hpv⟩ := hI
  rw [hcn] at p3 p4 hPR hpv
  obtain ⟨n, en⟩ : ∃ n, n = (cl st).length := ⟨_, rfl⟩
  rw [← en] at p3 p4 hPR hpv t2 t3 ⊢
  have hD := PC_d A p4
  have hDb : (dt A (Sx st n) P).natAbs ≤ 312000000 := Nat.le_trans (dt_bd hk n (Sx st n) P t2 (Sx_len st n) (Sx_6 hst64 (by omega)) p3 p1) (bnd_le t2)
  have loop : ∀ (m t : Nat) (Lx : px_L), t + m = nt → (∀ a j, a ≠ 213 → a ≠ 214 → Lx a j = L a j) → (∃ ab un : Nat → Int, ∀ v, v < t → Lx 213 v = lI (ab v) ∧ Lx 214 v = lI (un v) ∧ Fr A st n P v (ab v) (un v)) →
      ∃ z L', bdS (lpf (fun a : Int32 × px_L => f_X12_solves_313 sh Mx a.2 R (nI st) a.1) (nI t, Lx)) (fun t_313_0 => some ((0 : Int32), Mx, t_313_0)) (fun u_313_0 => some (1, Mx, u_313_0)) = some (z, Mx, L') ∧ (∀ a j, a ≠ 213 → a ≠ 214 → L' a j = L a j) ∧ ((z = 0 ∧ ∃ j, j < n ∧ Uj A (Sx st n) P j 6 * dt A (Sx st n) P < 0) ∨ (z = 1 ∧ ∃ ab un : Nat → Int, ∀ t, t < nt → L' 213 t = lI (ab t) ∧ L' 214 t = lI (un t) ∧ Fr A st n P t (ab t) (un t))) := by
    intro m
    induction m with
    | zero =>
      intro t Lx ht x1 x2
      obtain rfl : t = nt := by omega
      refine ⟨1, Lx, ?_, x1, Or.inr ⟨rfl, x2⟩⟩
      rw [bdS_r (lpf_end (body := fun a : Int32 × px_L => f_X12_solves_313 sh Mx a.2 R (nI st) a.1) (b := .inr Lx) (by
        show f_X12_solves_313 sh Mx Lx R (nI st) (nI t) = _
        unfold f_X12_solves_313
        rw [h58, if_pos (Int32.le_refl _)]))]
    | succ m ih =>
      intro t Lx ht x1 x2
      obtain ⟨ab, un, x3⟩ := x2
      obtain ⟨L2, eL2⟩ : ∃ L2, L2 = px_u (px_u Lx 213 t 0) 214 t 1 := ⟨_, rfl⟩
      have nxt : ∀ (a' u' : Int) (Ly : px_L), Ly 213 t = lI a' → Ly 214 t = lI u' → (∀ a j, ¬ (a = 213 ∧ j = t) → ¬ (a = 214 ∧ j = t) → Ly a j = Lx a j) → Fr A st n P t a' u' → f_X12_solves_313 sh Mx Lx R (nI st) (nI t) = some (.inl (nI (t + 1), Ly)) → ∃ z L', bdS (lpf (fun a : Int32 × px_L => f_X12_solves_313 sh Mx a.2 R (nI st) a.1) (nI t, Lx)) (fun t_313_0 => some ((0 : Int32), Mx, t_313_0)) (fun u_313_0 => some (1, Mx, u_313_0)) = some (z, Mx, L') ∧ (∀ a j, a ≠ 213 → a ≠ 214 → L' a j = L a j) ∧ ((z = 0 ∧ ∃ j, j < n ∧ Uj A (Sx st n) P j 6 * dt A (Sx st n) P < 0) ∨ (z = 1 ∧ ∃ ab un : Nat → Int, ∀ t, t < nt → L' 213 t = lI (ab t) ∧ L' 214 t = lI (un t) ∧ Fr A st n P t (ab t) (un t))) := by
        intro a' u' Ly y1 y2 y3 y4 hg
        rw [lpf_go (body := fun a : Int32 × px_L => f_X12_solves_313 sh Mx a.2 R (nI st) a.1) (a := (nI t, Lx)) hg]
        refine ih (t + 1) Ly (by omega) (fun a j h1 h2 => by rw [y3 a j (by omega) (by omega)]; exact x1 a j h1 h2) ⟨fun v => if v = t then a' else ab v, fun v => if v = t then u' else un v, fun v hv => ?_⟩
        dsimp only
        by_cases e : v = t
        · subst e
          rw [if_pos rfl, if_pos rfl]
          exact ⟨y1, y2, y4⟩
        · rw [if_neg e, if_neg e, y3 213 v (by omega) (by omega), y3 214 v (by omega) (by omega)]
          exact x3 v (by omega)
      have start : f_X12_solves_313 sh Mx Lx R (nI st) (nI t) = if ((nI st >>> (nI t &&& 31)) &&& 1) = 0 then f_X12_solves_463 sh Mx L2 R (nI st) (nI t) else
          ok (ix (nI t) 6) (nm (Mx 212 t) fun v_361 => ok (ix v_361 12) (bd1 (R 199 v_361.toNatClampNeg) fun b_361 => ok (xk sh b_361 14 6) (nm (L2 b_361 (6 : Int32).toNatClampNeg) fun v_365 => ok (ix (nI t) 6) (nm (Mx 212 t) fun v_378 => ok (ix v_378 12) (bd1 (R 199 v_378.toNatClampNeg) fun b_378 => ok (xk sh b_378 14 (nI t)) (nm (L2 b_378 t) fun v_382 => bd1 (f_X12_divisor v_365 v_382) fun e_388 =>
          if 0 ≤ (lg_cmp v_382 0) then ok (nz e_388 0) (f_X12_solves_420 sh Mx L2 R (nI st) (nI t) v_382 e_388 (v_365 / e_388) (nI t)) else ok (nz e_388 0) (f_X12_solves_420 sh Mx L2 R (nI st) (nI t) v_382 e_388 ((-v_365) / e_388) (nI t)))))))) := by
        unfold f_X12_solves_313
        rw [h58, if_neg (nI_ge (show t < nt by omega) (by omega)), ok_t (ix_k (show t < 6 by omega) (by decide)), nI_clamp (show t < 2 ^ 31 by omega), nm_u, ok_t (ix_k (show t < 6 by omega) (by decide)), nm_u, ← eL2]
      have hL2 : ∀ a j, ¬ (a = 213 ∧ j = t) → ¬ (a = 214 ∧ j = t) → L2 a j = Lx a j := fun a j h1 h2 => by rw [eL2, pu_n h2, pu_n h1]
      by_cases hb : st.testBit t = true
      · have hbit0 : ¬ ((nI st >>> (nI t &&& 31)) &&& 1 = 0) := by
          rw [bit1 (show st < 2 ^ 31 by omega) (show t < 32 by omega), (tb_iff st t).mp hb]
          decide
        obtain ⟨k1, k2⟩ := t3 t (by omega) hb
        obtain ⟨j, ej⟩ : ∃ j, j = n - 1 - cN st t := ⟨_, rfl⟩
        have hj : j < n := by omega
        have hjP : j < P.length := by omega
        have hjS : j < (Sx st n).length := by rw [Sx_len]; exact hj
        have hSj : (Sx st n)[j] = t := by
          have := Sx_get st n j hj
          rw [show (Sx st n).getD j 0 = (Sx st n)[j] by simp [hjS], show n - 1 - j = cN st t by omega] at this
          rw [this]
          exact k1
        obtain ⟨p, ep⟩ : ∃ p, p = P.getD j 0 := ⟨_, rfl⟩
        have hpj : p = P[j] := by rw [ep]; simp [hjP]
        have hpm : p ∈ P := by rw [hpj]; exact List.getElem_mem hjP
        have hp12 := p2 p hpm
        have hM : Mx 212 t = nI p := by rw [hpv t (by omega) hb, ← ej, ← ep]
        obtain ⟨r1, r2⟩ := R199 hS hp12
        have hV : ∀ k, Vv A st n P p k = Uj A (Sx st n) P j k := fun k => by
          unfold Vv
          rw [if_pos hpm, hpj, idx_get p1 hjP]
        have hVt : Vv A st n P p t = dt A (Sx st n) P := by
          rw [hV, ← hSj]
          exact U_own A hjS
        obtain ⟨hpr, hrw⟩ := hPR p hp12
        have hb6 := ((row_b hk h6 hst64 (by omega) p1 p3 hpr hrw (Nat.le_refl 6)).2 rfl).2 hpm
        obtain ⟨a1, b1, a0, b0, hab⟩ := id hpr
        have et : b1 * dt A (Sx st n) P = a1 * T p t := by rw [← hVt]; exact hab t (Or.inr ⟨by omega, hb⟩)
        have e6 : b1 * Uj A (Sx st n) P j 6 = a1 * T p 6 := by rw [← hV]; exact hab 6 (Or.inl rfl)
        obtain ⟨va, eva⟩ : ∃ va, va = T p 6 := ⟨_, rfl⟩
        obtain ⟨vb, evb⟩ : ∃ vb, vb = T p t := ⟨_, rfl⟩
        obtain ⟨U, eU⟩ : ∃ U, U = Uj A (Sx st n) P j 6 := ⟨_, rfl⟩
        obtain ⟨D, eD⟩ : ∃ D, D = dt A (Sx st n) P := ⟨_, rfl⟩
        have hbt : vb.natAbs ≤ 312000000 := by
          rw [evb]
          rcases hrw with h | ⟨h1, h2⟩
          · rw [h t (by omega)]
            have := (hk t (by omega)).1 p
            omega
          · have hle := prim_le (T := T p) (W := fun k => @ite Int (col st k) (Classical.propDecidable _) (Vv A st n P p k) 0) (n := 7) h1 a0 b0 (fun i hi => by
              by_cases q : col st i
              · show b1 * (@ite Int _ (Classical.propDecidable _) _ _) = _
                rw [if_pos q]; exact hab i q
              · show b1 * (@ite Int _ (Classical.propDecidable _) _ _) = _
                rw [if_neg q, h2 i hi q, Int.mul_zero, Int.mul_zero]) (k := t) (by omega)
            have e : (@ite Int (col st t) (Classical.propDecidable _) (Vv A st n P p t) 0) = Vv A st n P p t := if_pos (Or.inr ⟨by omega, hb⟩)
            have hle' : (T p t).natAbs ≤ (Vv A st n P p t).natAbs := by rw [← e]; exact hle
            rw [hVt] at hle'
            omega
        rw [← eva] at e6 hb6
        rw [← evb, ← eD] at et
        rw [← eU] at e6
        have hD' : D ≠ 0 := by rw [eD]; exact hD
        have hvb : vb ≠ 0 := by
          intro z
          rw [z, Int.mul_zero] at et
          rcases Int.mul_eq_zero.mp et with q | q
          · exact b0 q
          · exact hD' q
        have hcross : va * D = vb * U := by
          have : a1 * (va * D) = a1 * (vb * U) := by
            have q1 : a1 * (va * D) = (b1 * U) * D := by rw [e6]; grind
            have q2 : a1 * (vb * U) = (b1 * D) * U := by rw [et]; grind
            rw [q1, q2]
            grind
          exact Int.eq_of_mul_eq_mul_left a0 this
        have ra : rg va := rg_n hb6 (by decide)
        have rb' : rg vb := rg_n hbt (by decide)
        obtain ⟨g, eg⟩ : ∃ g : Nat, g = Nat.gcd va.natAbs vb.natAbs := ⟨_, rfl⟩
        have hg0 : 0 < g := by rw [eg]; exact Nat.gcd_pos_of_pos_right _ (by omega)
        have hgb : g ≤ 312000000 := by
          have := Nat.le_of_dvd (show 0 < vb.natAbs by omega) (show g ∣ vb.natAbs by rw [eg]; exact Nat.gcd_dvd_right _ _)
          omega
        have rgg : rg (g : Int) := ⟨by omega, by omega⟩
        have hga : (g : Int) ∣ va := Int.natAbs_dvd_natAbs.mp (by rw [eg]; exact Nat.gcd_dvd_left _ _)
        have hgv : (g : Int) ∣ vb := Int.natAbs_dvd_natAbs.mp (by rw [eg]; exact Nat.gcd_dvd_right _ _)
        have hva6 : L2 (200 + p) 6 = lI va := by rw [hL2 _ _ (by omega) (by omega), x1 _ _ (by omega) (by omega), hL p hp12 6 (by omega), eva]
        have hvbt : L2 (200 + p) t = lI vb := by rw [hL2 _ _ (by omega) (by omega), x1 _ _ (by omega) (by omega), hL p hp12 t (by omega), evb]
        -- both signs at once
        obtain ⟨sa, sb, hsab, hcr, hsb, hge, hrun⟩ : ∃ sa sb : Int, (sa.natAbs = va.natAbs ∧ sb.natAbs = vb.natAbs) ∧ sa * D = sb * U ∧ 0 < sb ∧ ((g : Int) ∣ sa ∧ (g : Int) ∣ sb) ∧ f_X12_solves_313 sh Mx Lx R (nI st) (nI t) = f_X12_solves_448 sh Mx (px_u L2 213 t (lI (sa.tdiv g))) R (nI st) (nI t) (lI (sb.tdiv g)) (nI t) := by
          have hnz : nz (lI (g : Int)) 0 = true := lc_nz rgg (by omega)
          have pre : f_X12_solves_313 sh Mx Lx R (nI st) (nI t) = if 0 ≤ (lg_cmp (lI vb) 0) then f_X12_solves_420 sh Mx L2 R (nI st) (nI t) (lI vb) (lI g) (lI va / lI g) (nI t) else f_X12_solves_420 sh Mx L2 R (nI st) (nI t) (lI vb) (lI g) ((-lI va) / lI g) (nI t) := by
            rw [start, if_neg hbit0, ok_t (ix_k (show t < 6 by omega) (by decide)), nm_u, hM, ok_t (ix_k hp12 (by decide)), nI_clamp (show p < 2 ^ 31 by omega), r1, bd1_e, ok_t (xk_t r2 (show ix 6 7 = true by decide)), nm_u, show (6 : Int32).toNatClampNeg = 6 from rfl, hva6, ok_t (ix_k (show t < 6 by omega) (by decide)), nm_u, ok_t (ix_k hp12 (by decide)), nI_clamp (show p < 2 ^ 31 by omega), r1, bd1_e, ok_t (xk_t r2 (ix_k (show t < 7 by omega) (by decide))), nm_u, hvbt, m_div ra rb', bd1_e, ← eg, ok_t hnz, ok_t hnz]
          by_cases hpos : 0 ≤ vb
          · refine ⟨va, vb, ⟨rfl, rfl⟩, hcross, by omega, ⟨hga, hgv⟩, ?_⟩
            rw [pre, if_pos ((lc_ge rb').mpr hpos)]
            unfold f_X12_solves_420
            rw [ok_t (ix_k (show t < 6 by omega) (by decide)), nI_clamp (show t < 2 ^ 31 by omega), nm_u, if_pos ((lc_ge rb').mpr hpos), ok_t hnz, lI_div ra rgg, lI_div rb' rgg]
          · refine ⟨-va, -vb, ⟨Int.natAbs_neg _, Int.natAbs_neg _⟩, by rw [Int.neg_mul, Int.neg_mul, hcross], by omega, ⟨Int.dvd_neg.mpr hga, Int.dvd_neg.mpr hgv⟩, ?_⟩
            have ra' : rg (-va) := by have := ra.1; have := ra.2; exact ⟨by omega, by omega⟩
            have rb2 : rg (-vb) := by have := rb'.1; have := rb'.2; exact ⟨by omega, by omega⟩
            rw [pre, if_neg (fun z => hpos ((lc_ge rb').mp z))]
            unfold f_X12_solves_420
            rw [ok_t (ix_k (show t < 6 by omega) (by decide)), nI_clamp (show t < 2 ^ 31 by omega), nm_u, if_neg (fun z => hpos ((lc_ge rb').mp z)), ok_t hnz, lI_neg, lI_neg, lI_div ra' rgg, lI_div rb2 rgg]
        obtain ⟨a', ea'⟩ : ∃ a', a' = sa.tdiv g := ⟨_, rfl⟩
        obtain ⟨u', eu'⟩ : ∃ u', u' = sb.tdiv g := ⟨_, rfl⟩
        rw [← ea', ← eu'] at hrun
        have fa : sa = g * a' := by rw [ea']; exact (Int.mul_tdiv_cancel' hge.1).symm
        have fb : sb = g * u' := by rw [eu']; exact (Int.mul_tdiv_cancel' hge.2).symm
        have hu' : 0 < u' := by
          by_cases q : 0 < u'
          · exact q
          · have : (g : Int) * u' ≤ 0 := Int.mul_nonpos_of_nonneg_of_nonpos (by omega) (by omega)
            omega
        have hcr' : a' * D = u' * U := by
          have : (g : Int) * (a' * D) = g * (u' * U) := by
            rw [← Int.mul_assoc, ← fa, hcr, fb, Int.mul_assoc]
          exact Int.eq_of_mul_eq_mul_left (by omega) this
        have hna : a'.natAbs * g = va.natAbs := by rw [← hsab.1, fa, Int.natAbs_mul, Int.natAbs_natCast, Nat.mul_comm]
        have hnb : u'.natAbs * g = vb.natAbs := by rw [← hsab.2, fb, Int.natAbs_mul, Int.natAbs_natCast, Nat.mul_comm]
        have hgc : Nat.gcd a'.natAbs u'.natAbs = 1 := by
          have q := eg
          rw [← hna, ← hnb, Nat.gcd_mul_right] at q
          have : 1 * g = Nat.gcd a'.natAbs u'.natAbs * g := by rw [Nat.one_mul]; exact q
          exact (Nat.eq_of_mul_eq_mul_right hg0 this).symm
        have hal : a'.natAbs ≤ va.natAbs := by rw [← hna]; exact Nat.le_mul_of_pos_right _ hg0
        have ra2 : rg a' := rg_n (Nat.le_trans hal hb6) (by decide)
        unfold f_X12_solves_448 f_X12_solves_463 at hrun
        rw [ok_t (ix_k (show t < 6 by omega) (by decide)), nI_clamp (show t < 2 ^ 31 by omega), nm_u, ok_t (ix_k (show t < 6 by omega) (by decide)), pu_n (by omega), px_u_in, ifi (lc_ge ra2), nI_1] at hrun
        by_cases hpos : 0 ≤ a'
        · rw [if_pos hpos] at hrun
          refine nxt a' u' _ (by rw [pu_n (by omega), px_u_in]) (px_u_in _ _ _ _) (fun a i h1 h2 => by rw [pu_n h2, pu_n h1, hL2 a i h1 h2]) ⟨⟨hu', hpos, hgc⟩, fun _ => ?_, fun z => absurd hb z⟩ hrun
          rw [← ej, ← eU, ← eD]
          exact hcr'
        · rw [if_neg hpos] at hrun
          refine ⟨0, px_u (px_u L2 213 t (lI a')) 214 t (lI u'), ?_, ?_, Or.inl ⟨rfl, j, hj, ?_⟩⟩
          · rw [bdS_l (lpf_end (body := fun a : Int32 × px_L => f_X12_solves_313 sh Mx a.2 R (nI st) a.1) (a := (nI t, Lx)) hrun)]
          · intro a i h1 h2
            rw [pu_n (by omega), pu_n (by omega), hL2 a i (by omega) (by omega)]
            exact x1 a i h1 h2
          · rw [← eU, ← eD]
            by_cases q : U * D < 0
            · exact q
            · exfalso
              have q0 : 0 ≤ U * D := by omega
              have q1 : 0 ≤ u' * (U * D) := Int.mul_nonneg (by omega) q0
              have q2 : u' * (U * D) = a' * (D * D) := by rw [← Int.mul_assoc, ← hcr', Int.mul_assoc]
              have q3 : 0 < D * D := by
                rcases Int.lt_or_gt_of_ne hD' with h | h
                · exact Int.mul_pos_of_neg_of_neg h h
                · exact Int.mul_pos h h
              have q4 := Int.mul_neg_of_neg_of_pos (show a' < 0 by omega) q3
              omega
      · have hbit0 : (nI st >>> (nI t &&& 31)) &&& 1 = 0 := by
          rw [bit1 (show st < 2 ^ 31 by omega) (show t < 32 by omega)]
          have h2 : ¬ st / 2 ^ t % 2 = 1 := fun z => hb ((tb_iff st t).mpr z)
          rw [show st / 2 ^ t % 2 = 0 by omega]
          rfl
        refine nxt 0 1 L2 (by rw [eL2, pu_n (by omega), px_u_in]; rfl) (by rw [eL2, px_u_in]; rfl) hL2 ⟨⟨by decide, by decide, by decide⟩, fun z => absurd z hb, fun _ => ⟨rfl, rfl⟩⟩ ?_
        rw [start, if_pos hbit0]
        unfold f_X12_solves_463
        rw [nI_1]
  obtain ⟨z, L', g1, g2⟩ := loop nt 0 L (by omega) (fun _ _ _ _ => rfl) ⟨fun _ => 0, fun _ => 1, fun v hv => absurd hv (by omega)⟩
  exact ⟨z, L', g1, g2⟩
end MSOLVES
