/-! fits and fit -/
section FITS3
variable {sh : px_Sh} {M M' : px_M} {L : px_L} {R : px_R} {np nf nc ns m : Nat} {pa fp : Nat → Nat}
theorem fit_in (h6 : M 6 1 = nI np) (hnp : np ≤ 16) (p1 : Int32) : (∃ m, 1 ≤ m ∧ m ≤ 4 ∧ m ≤ np ∧ p1 = nI m ∧ f_X11_isFitLength M p1 = some 1 ∧ f_X12_in p1 1 4 = some 1 ∧ p1 ≤ nI np) ∨ (f_X11_isFitLength M p1 = some 0 ∧ (f_X12_in p1 1 4 = some 0 ∨ (f_X12_in p1 1 4 = some 1 ∧ ¬ p1 ≤ nI np))) := by
  unfold f_X11_isFitLength f_X11_isFitLength_24 f_X11_isFitLength_25
  rw [e_within, e_in, bd1_e, h6, ok_t zb0, ok_t zb1]
  by_cases q : 1 ≤ p1 ∧ p1 ≤ 4
  · rw [bI_t q, if_neg (by decide)]
    obtain ⟨m, m1, rfl⟩ := nI_of2 (M := 4) (n := 4) (by decide) (Int32.not_lt.mpr (Int32.le_trans (by decide) q.1)) q.2
    have m2 : 1 ≤ m := (nI_leI (a := 1) (by decide) (by omega)).mp q.1
    by_cases q2 : nI np < nI m
    · rw [if_pos q2]
      exact Or.inr ⟨rfl, Or.inr ⟨rfl, Int32.not_le.mpr q2⟩⟩
    · rw [if_neg q2]
      have q3 := Int32.not_lt.mp q2
      exact Or.inl ⟨m, m2, m1, (nI_leI (by omega) (by omega)).mp q3, rfl, rfl, rfl, q3⟩
  · rw [bI_f q, if_pos rfl]
    exact Or.inr ⟨rfl, Or.inl rfl⟩
theorem kp_5 {M2 : px_M} (he : eqH sh M M2) : kp sh [5] M M2 := fun c j hn => he c j (fun q => hn (by rw [q]; exact List.mem_cons_self)) (fun q => hn (by rw [q.1]; exact List.mem_cons_of_mem _ List.mem_cons_self))
theorem eq_u0 (he : eqH sh M M') (v : Int32) : eqH sh M (px_u M' 73 0 v) := he.tr fun c j q => pu_n (fun x => q (by rw [x.1, x.2]; rfl))
theorem p_fits (hI : Isail sh M R) (hH : Ihide M) (hS : SR sh R) (p1 : Int32) :
    (∃ r M1 M2, f_X11_fits sh M R p1 = some (.inl (r, M1)) ∧ f_X12_fits M1 p1 = some (r, M2) ∧ M2 73 0 = 0 ∧ kp sh [5] M M2 ∧ Ihide M2) ∨ (f_X11_fits sh M R p1 = some (.inr 0) ∧ f_X12_fits M p1 = some (0, px_t M 1)) := by
  obtain ⟨np, nf, pa, fp, h⟩ := hI
  obtain ⟨nc, ns, hH⟩ := hH.of
  rcases fit_in (M := M) h.2.1.1 h.1.1 p1 with ⟨m, m1, m4, mp, rfl, w1, w2, w3⟩ | ⟨w1, w2⟩
  · left
    have n5 := hH.1.1
    obtain ⟨M1, c1, c2, c3, c4⟩ := c_findFits h hH hS m4 m1 mp
    have hTle : nc ^ m ≤ 625 := Nat.le_trans (Nat.pow_le_pow_left n5 m) (Nat.le_trans (Nat.pow_le_pow_right (by decide) m4) (by decide))
    have he1 : eqH sh M (px_u M1 73 0 0) := eq_u0 c2.eq 0
    have hloop : ∀ (k v : Nat) (Mx : px_M), v + k = nc ^ m → eqH sh M Mx → Mx 73 0 = 0 → ∃ M2, lpf (fun a : Int32 × Int32 × px_M => f_X12_fits_41 a.2.2 (nI m) a.1 a.2.1) (nI (FL M pa np m nc ns v).length, nI v, Mx) = some (nI (FL M pa np m nc ns (nc ^ m)).length, M2) ∧ eqH sh M M2 ∧ M2 73 0 = 0 := by
      intro k
      induction k with
      | zero =>
        intro v Mx hv he h0
        obtain rfl : v = nc ^ m := by omega
        refine ⟨Mx, lpf_end ?_, he, h0⟩
        show f_X12_fits_41 Mx (nI m) _ (nI (nc ^ m)) = _
        unfold f_X12_fits_41
        rw [m_waysOf m4 ((he.hide hH).2.1.2.1), bd1_e, if_pos (Int32.le_refl _)]
      | succ k ih =>
        intro v Mx hv he h0
        have hnc : nc ≠ 0 := fun q => by
          rw [q, Nat.zero_pow (by omega)] at hv
          omega
        obtain ⟨M2, t1, t2, t3⟩ := m_takes h hH he m4 mp hnc (v := v) (by omega)
        have he2 : eqH sh M M2 := he.tr fun c j q => t3 c j (fun x => q (by rw [x.1]; rfl))
        have hb : f_X12_fits_41 Mx (nI m) (nI (FL M pa np m nc ns v).length) (nI v) = some (.inl (nI (FL M pa np m nc ns (v + 1)).length, nI (v + 1), M2)) := by
          unfold f_X12_fits_41 f_X12_fits_65
          rw [m_waysOf m4 ((he.hide hH).2.1.2.1), bd1_e, if_neg (nI_ge (by omega) (by omega)), t1, bd1_e, FL_succ]
          dsimp only
          rw [ifi b2_0]
          by_cases q : gv M pa np m nc ns v = true
          · rw [if_neg (by rw [q]; decide), if_pos q, nm_u, nI_1, nI_1, List.length_append]; rfl
          · rw [if_pos (Bool.eq_false_iff.mpr q), if_neg q, nm_u, nI_1, Int32.add_zero, List.append_nil]
        rw [lpf_go (body := fun a : Int32 × Int32 × px_M => f_X12_fits_41 a.2.2 (nI m) a.1 a.2.1) (a := (nI (FL M pa np m nc ns v).length, nI v, Mx)) hb]
        exact ih (v + 1) M2 (by omega) he2 (by rw [t3 73 0 (by omega)]; exact h0)
    obtain ⟨M2, r1, r2, r3⟩ := hloop (nc ^ m) 0 (px_u M1 73 0 0) (by omega) he1 (px_u_in _ _ _ _)
    refine ⟨nI (FL M pa np m nc ns (nc ^ m)).length, M1, M2, ?_, ?_, r3, kp_5 r2, nc, ns, r2.hide hH⟩
    · unfold f_X11_fits f_X11_fits_8
      rw [w1, bd1_e, if_neg (by decide), c1]; rfl
    · unfold f_X12_fits f_X12_fits_28
      have e9 : (px_u M1 73 0 0) 73 9 = nI np := by rw [he1.sm 73 9 rfl]; exact h.2.1.2.1
      rw [nm_u, w2, bd1_e, if_neg (by decide), e9, if_pos w3, e_bf, bd1_e, if_pos rfl]
      dsimp only
      rw [show lpf (fun a : Int32 × Int32 × px_M => f_X12_fits_41 a.2.2 (nI m) a.1 a.2.1) (0, 0, px_u M1 73 0 0) = _ from r1, bd1_e]
  · right
    have hb : f_X12_fits_23 (px_u M 73 0 0) p1 = some (0, px_t M 1) := by
      unfold f_X12_fits_23 f_X12_fits_28
      rw [e_bt (by decide), bd1_e]; rfl
    have e9 : (px_u M 73 0 0) 73 9 = nI np := h.2.1.2.1
    unfold f_X11_fits f_X12_fits
    rw [w1, bd1_e, if_pos rfl, nm_u, e9, hb]
    refine ⟨rfl, ?_⟩
    rcases w2 with w2 | ⟨w2, w3⟩
    · rw [w2, bd1_e, if_pos rfl]
    · rw [w2, bd1_e, if_neg (by decide), if_neg w3]
theorem p_fit (hI : Isail sh M R) (hH : Ihide M) (hS : SR sh R) (p1 p2 : Int32) :
    (∃ r M1 M2, f_X11_fit sh M R p1 p2 = some (.inl (r, M1)) ∧ f_X12_fit M1 p1 p2 = some (r, M2) ∧ M2 73 0 = 0 ∧ kp sh [5] M M2 ∧ Ihide M2) ∨ (f_X11_fit sh M R p1 p2 = some (.inr 0) ∧ f_X12_fit M p1 p2 = some (0, px_t M 1)) := by
  obtain ⟨np, nf, pa, fp, h⟩ := hI
  obtain ⟨nc, ns, hH⟩ := hH.of
  rcases fit_in (M := M) h.2.1.1 h.1.1 p1 with ⟨m, m1, m4, mp, rfl, w1, w2, w3⟩ | ⟨w1, w2⟩
  · left
    have n5 := hH.1.1
    have hTle : nc ^ m ≤ 625 := Nat.le_trans (Nat.pow_le_pow_left n5 m) (Nat.le_trans (Nat.pow_le_pow_right (by decide) m4) (by decide))
    have hgc : f_X11_fit sh M R (nI m) p2 = bd1 (f_X11_fit_8 sh M R (nI m) p2) (fun e => some (.inl e)) := by
      unfold f_X11_fit
      rw [w1, bd1_e, if_neg (by decide)]
    have hgm : ∀ M1, eqH sh M M1 → f_X12_fit M1 (nI m) p2 = bdS (lpf (fun a : Int32 × px_M => f_X12_fit_39 a.2 (nI m) p2 a.1) (0, px_u M1 73 0 0)) (fun t => ok (ix p2 4) <| some ((t 190 p2.toNatClampNeg), t)) (fun u => some (-1, u)) := by
      intro M1 he
      have e9 : (px_u M1 73 0 0) 73 9 = nI np := by rw [(eq_u0 he 0).sm 73 9 rfl]; exact h.2.1.2.1
      unfold f_X12_fit f_X12_fit_28
      rw [nm_u, w2, bd1_e, if_neg (by decide), e9, if_pos w3, e_bf, bd1_e, if_pos rfl]
    rcases rng p2 (k := m) (by omega) with ⟨k, hk, rfl, v1, v2⟩ | ⟨-, v1, v2⟩
    · obtain ⟨M1, c1, c2, c3, c4⟩ := c_findFits h hH hS m4 m1 mp
      -- the first that fits
      have hloop : ∀ (l v : Nat) (Mx : px_M), v + l = nc ^ m → eqH sh M Mx → Mx 73 0 = 0 → (∀ u, u < v → ¬ gv M pa np m nc ns u = true) →
          (∃ M2, lpf (fun a : Int32 × px_M => f_X12_fit_39 a.2 (nI m) (nI k) a.1) (nI v, Mx) = some (.inr M2) ∧ eqH sh M M2 ∧ M2 73 0 = 0 ∧ ∀ u, u < nc ^ m → ¬ gv M pa np m nc ns u = true) ∨
          (∃ w M2, lpf (fun a : Int32 × px_M => f_X12_fit_39 a.2 (nI m) (nI k) a.1) (nI v, Mx) = some (.inl M2) ∧ eqH sh M M2 ∧ M2 73 0 = 0 ∧ w < nc ^ m ∧ gv M pa np m nc ns w = true ∧ (∀ u, u < w → ¬ gv M pa np m nc ns u = true) ∧ M2 190 k = nI (dgt (fun _ => nc) m w k)) := by
        intro l
        induction l with
        | zero =>
          intro v Mx hv he h0 hno
          obtain rfl : v = nc ^ m := by omega
          refine Or.inl ⟨Mx, lpf_end ?_, he, h0, hno⟩
          show f_X12_fit_39 Mx (nI m) (nI k) (nI (nc ^ m)) = _
          unfold f_X12_fit_39
          rw [m_waysOf m4 ((he.hide hH).2.1.2.1), bd1_e, if_pos (Int32.le_refl _)]
        | succ l ih =>
          intro v Mx hv he h0 hno
          have hnc : nc ≠ 0 := fun q => by
            rw [q, Nat.zero_pow (by omega)] at hv
            omega
          obtain ⟨M2, t1, t2, t3⟩ := m_takes h hH he m4 mp hnc (v := v) (by omega)
          have he2 : eqH sh M M2 := he.tr fun c j q => t3 c j (fun x => q (by rw [x.1]; rfl))
          have h02 : M2 73 0 = 0 := by rw [t3 73 0 (by omega)]; exact h0
          have hb : f_X12_fit_39 Mx (nI m) (nI k) (nI v) = if gv M pa np m nc ns v = false then some (.inl (nI (v + 1), M2)) else some (.inr (.inl M2)) := by
            unfold f_X12_fit_39
            rw [m_waysOf m4 ((he.hide hH).2.1.2.1), bd1_e, if_neg (nI_ge (by omega) (by omega)), v2, bd1_e, if_neg (by decide), t1, bd1_e]
            dsimp only
            rw [ifi b2_0, nI_1]
          by_cases q : gv M pa np m nc ns v = true
          · right
            exact ⟨v, M2, lpf_end (hb.trans (if_neg (by rw [q]; decide))), he2, h02, by omega, q, hno, t2 k hk⟩
          · rw [lpf_go (body := fun a : Int32 × px_M => f_X12_fit_39 a.2 (nI m) (nI k) a.1) (a := (nI v, Mx)) (hb.trans (if_pos (Bool.eq_false_iff.mpr q)))]
            refine ih (v + 1) M2 (by omega) he2 h02 fun u hu => ?_
            by_cases e : u = v
            · rw [e]; exact q
            · exact hno u (by omega)
      have hlen := FL_len (M := M) (pa := pa) (np := np) (m := m) (nc := nc) (ns := ns) (nc ^ m)
      rcases hloop (nc ^ m) 0 (px_u M1 73 0 0) (by omega) (eq_u0 c2.eq 0) (px_u_in _ _ _ _) (fun u hu => absurd hu (by omega)) with ⟨M2, r1, r2, r3, r4⟩ | ⟨w, M2, r1, r2, r3, r4, r5, r6, r7⟩
      · have hnil : FL M pa np m nc ns (nc ^ m) = [] := by
          unfold FL
          rw [List.filter_eq_nil_iff]
          intro u hu
          exact r4 u (List.mem_range.mp hu)
        refine ⟨-1, M1, M2, ?_, ?_, r3, kp_5 r2, nc, ns, r2.hide hH⟩
        · rw [hgc]
          unfold f_X11_fit_8 f_X11_fit_46 f_X11_fit_47
          rw [v1, bd1_e, if_neg (by decide), c1, bd1_e, hnil]
          rfl
        · rw [hgm M1 c2.eq, show lpf (fun a : Int32 × px_M => f_X12_fit_39 a.2 (nI m) (nI k) a.1) (0, px_u M1 73 0 0) = _ from r1]
          rfl
      · have hhd : ∃ t, FL M pa np m nc ns (nc ^ m) = w :: t := by
          unfold FL
          have e1 : List.range (nc ^ m) = List.range w ++ (w :: (List.range (nc ^ m - w - 1)).map (fun x => w + 1 + x)) := by
            rw [show nc ^ m = w + (nc ^ m - w - 1 + 1) by omega, List.range_add, List.range_succ_eq_map]
            simp only [List.map_cons, List.map_map, Nat.add_zero, show w + (nc ^ m - w - 1 + 1) - w - 1 = nc ^ m - w - 1 by omega]
            congr 2
            apply List.map_congr_left
            intro x _
            simp only [Function.comp]
            omega
          rw [e1, List.filter_append, List.filter_cons_of_pos r5, List.filter_eq_nil_iff.mpr fun u hu => r6 u (List.mem_range.mp hu)]
          exact ⟨_, rfl⟩
        obtain ⟨t, ht⟩ := hhd
        have hd : ∀ i, i < m → dgt (fun _ => nc) m w i < 5 := fun i hi => by
          have := dgt_lt (sz := fun _ => nc) (fun _ => by
            apply Nat.pos_of_ne_zero
            intro q
            rw [q, Nat.zero_pow (by omega)] at r4
            omega) m w i hi
          omega
        refine ⟨nI (dgt (fun _ => nc) m w k), M1, M2, ?_, ?_, r3, kp_5 r2, nc, ns, r2.hide hH⟩
        · rw [hgc]
          unfold f_X11_fit_8 f_X11_fit_47
          have hpos : 0 < (FL M pa np m nc ns (nc ^ m)).length := by rw [ht]; simp
          rw [v1, bd1_e, if_neg (by decide), c1, bd1_e, if_neg (nI_nle hpos (by omega))]
          have hco : f_X3_coatOf M1 0 (nI k) = some (nI (dgt (fun _ => nc) m w k)) := by
            unfold f_X3_coatOf f_X3_coatOf_28
            rcases rng 0 (k := (FL M pa np m nc ns (nc ^ m)).length) (by omega) with ⟨j, -, -, u1, -⟩ | ⟨u0, -, -⟩
            · have e38 : M1 38 0 = nI (pkd (dgt (fun _ => nc) m w) m) := by
                have := c4.2 0 hpos
                rw [ht] at this
                exact this
              rw [c4.1, u1, bd1_e, if_neg (by decide), ok_t (by decide), show (0 : Int32).toNatClampNeg = 0 from rfl, e38, e_coatIn m4 hd hk, bd1_e]
            · exact absurd rfl (u0 0 hpos)
          dsimp only
          rw [hco, bd1_e]
          rfl
        · rw [hgm M1 c2.eq, show lpf (fun a : Int32 × px_M => f_X12_fit_39 a.2 (nI m) (nI k) a.1) (0, px_u M1 73 0 0) = _ from r1, bdS_l (a := M2) rfl, ok_t (ix_k (show k < 4 by omega) (by decide)), nI_clamp (by omega), r7]
    · refine ⟨-1, M, px_u M 73 0 0, ?_, ?_, px_u_in _ _ _ _, px_0_kp _ _, nc, ns, (eq_u0 (sh := sh) (fun _ _ _ _ => rfl) 0).hide hH⟩
      · rw [hgc]
        unfold f_X11_fit_8 f_X11_fit_46 f_X11_fit_47
        rw [v1, bd1_e, if_pos rfl]; rfl
      · have hb : f_X12_fit_39 (px_u M 73 0 0) (nI m) p2 0 = some (.inr (.inr (px_u M 73 0 0))) := by
          unfold f_X12_fit_39
          rw [m_waysOf (M' := px_u M 73 0 0) (nc := nc) m4 hH.2.1.2.1, bd1_e, v2, bd1_e, if_pos rfl, ite_self]
        rw [hgm M (fun _ _ _ _ => rfl), lpf_end (body := fun a : Int32 × px_M => f_X12_fit_39 a.2 (nI m) p2 a.1) (a := (0, px_u M 73 0 0)) hb]
        rfl
  · right
    have hb : f_X12_fit_23 (px_u M 73 0 0) p1 p2 = some (0, px_t M 1) := by
      unfold f_X12_fit_23 f_X12_fit_28
      rw [e_bt (by decide), bd1_e]; rfl
    have e9 : (px_u M 73 0 0) 73 9 = nI np := h.2.1.2.1
    unfold f_X11_fit f_X12_fit
    rw [w1, bd1_e, if_pos rfl, nm_u, e9, hb]
    refine ⟨rfl, ?_⟩
    rcases w2 with w2 | ⟨w2, w3⟩
    · rw [w2, bd1_e, if_pos rfl]
    · rw [w2, bd1_e, if_neg (by decide), if_neg w3]
end FITS3
