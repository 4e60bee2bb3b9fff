/-! which coats may be hidden: the search, and the reference's -/
/-- all is the same but what nobody reads, and how many fits were found -/
def eqH (sh : px_Sh) (M M' : px_M) : Prop := ∀ c j, md sh c j ≠ 0 → ¬ (c = 27 ∧ j = 13) → M' c j = M c j
theorem Tn_const (b : Nat) : ∀ m, Tn (fun _ => b) m = b ^ m
  | 0 => rfl
  | m + 1 => by unfold Tn; rw [Tn_const b m, Nat.pow_succ]
theorem fld_from (h : Nat → Int32) : ∀ (k i : Nat) (a : Int32), fld (fun i s => s + h i) i k a = a + fld (fun i s => s + h i) i k 0
  | 0, i, a => by unfold fld; rw [Int32.add_zero]
  | k + 1, i, a => by
    show fld (fun i s => s + h i) (i + 1) k (a + h i) = a + fld (fun i s => s + h i) (i + 1) k (0 + h i)
    rw [fld_from h k (i + 1) (a + h i), fld_from h k (i + 1) (0 + h i)]
    grind
section FITS2
variable {sh : px_Sh} {M M' : px_M} {L : px_L} {R : px_R} {np nf nc ns m : Nat} {pa fp : Nat → Nat}
theorem scrH.eq (h : scrH M M') : eqH sh M M' := fun c j e q => h c j (fun x => e (by rw [x]; rfl)) (fun x => e (by rw [x]; rfl)) (fun x => e (by rw [x]; rfl)) (fun x => e (by rw [x]; rfl)) (fun x => e (by rw [x]; rfl)) q
theorem eqH.sm (h : eqH sh M M') : sm_ sh 2 M M' := fun c j e => h c j (by rw [e]; decide) (fun x => by rw [x.1] at e; exact absurd (show (5 : Nat) = 2 from e) (by decide))
theorem eqH.tr {M2 : px_M} (h : eqH sh M M') (h2 : ∀ c j, md sh c j ≠ 0 → M2 c j = M' c j) : eqH sh M M2 := fun c j e q => (h2 c j e).trans (h c j e q)
theorem eqH.hide (h : eqH sh M M') (hH : HideI M nc ns) : HideI M' nc ns := by
  obtain ⟨h1, h2, h3, h4, h5⟩ := hH
  have e : ∀ c j, md sh c j = 5 → ¬ (c = 27 ∧ j = 13) → M' c j = M c j := fun c j q => h c j (by rw [q]; decide)
  refine ⟨h1, ?_, fun i hi => ?_, fun i hi => ?_, fun i => ?_⟩
  · rw [e 27 2 rfl (by omega), e 73 48 rfl (by omega), e 27 6 rfl (by omega), e 73 49 rfl (by omega)]; exact h2
  · rw [e 28 i rfl (by omega), e 29 i rfl (by omega), e 185 i rfl (by omega), e 186 i rfl (by omega)]; exact h3 i hi
  · rw [e 30 i rfl (by omega), e 31 i rfl (by omega), e 32 i rfl (by omega), e 187 i rfl (by omega), e 188 i rfl (by omega), e 189 i rfl (by omega)]; exact h4 i hi
  · rw [e 36 i rfl (by omega)]; exact h5 i
/-- the row of coats of number v fits -/
noncomputable def gv (M : px_M) (pa : Nat → Nat) (np m nc ns v : Nat) : Bool := okV M pa np m ns (dgt (fun _ => nc) m v)
noncomputable def FL (M : px_M) (pa : Nat → Nat) (np m nc ns t : Nat) : List Nat := (List.range t).filter (gv M pa np m nc ns)
theorem FL_succ (t : Nat) : FL M pa np m nc ns (t + 1) = FL M pa np m nc ns t ++ (if gv M pa np m nc ns t = true then [t] else []) := by
  unfold FL
  rw [List.range_succ, List.filter_append]
  congr 1
  by_cases q : gv M pa np m nc ns t = true
  · rw [if_pos q, List.filter_cons_of_pos q]; rfl
  · rw [if_neg q, List.filter_cons_of_neg q]; rfl
theorem FL_len (t : Nat) : (FL M pa np m nc ns t).length ≤ t := by
  unfold FL
  exact Nat.le_trans (List.length_filter_le _ _) (by rw [List.length_range]; exact Nat.le_refl _)
/-- what findFits leaves: the fits found, packed -/
def FdI (M M' : px_M) (pa : Nat → Nat) (np m nc ns t : Nat) : Prop := M' 27 13 = nI (FL M pa np m nc ns t).length ∧ ∀ i, i < (FL M pa np m nc ns t).length → M' 38 i = nI (pkd (dgt (fun _ => nc) m ((FL M pa np m nc ns t).getD i 0)) m)
theorem c_findFits (h : SailI sh M R np nf pa fp) (hH : HideI M nc ns) (hS : SR sh R) (hm : m ≤ 4) (hm1 : 1 ≤ m) (hmp : m ≤ np) :
    ∃ M2, f_X3_findFits sh M R (nI m) = some (nI (FL M pa np m nc ns (nc ^ m)).length, M2) ∧ scrH M M2 ∧ (∀ e, e < 17 → ShI M M2 pa np m nc e) ∧ FdI M M2 pa np m nc ns (nc ^ m) := by
  have hH' := hH
  obtain ⟨⟨n5, n6⟩, hn, hco, hsi, h36⟩ := hH
  obtain ⟨Ma, a1, a2, a3, a4⟩ := c_tableShares h hH' hm hmp (M' := px_u M 27 13 0) (fun c j c1 c2 c3 c4 c5 c6 => pu_n (by omega)) (px_u_in _ _ _ _)
  -- the first row
  have K := lpf_for (body := fun a : Int32 × px_M => f_X3_findFits_13 sh a.2 R (nI m) a.1) (fun i (M' : px_M) => (nI i, M')) (fun i M' => px_u (px_u M' 35 i 0) 37 i (nI nc - 1))
    (fun k M' => (∀ c j, c ≠ 35 → c ≠ 37 → M' c j = Ma c j) ∧ ∀ i, i < k → M' 35 i = 0 ∧ M' 37 i = nI nc - 1) (fun M' => M') m
    (fun i Mx hi hP => by
      obtain ⟨p1, p2⟩ := hP
      refine ⟨?_, fun c j c1 c2 => by rw [pu_n (by omega), pu_n (by omega)]; exact p1 c j c1 c2, fun g hg => ?_⟩
      · show f_X3_findFits_13 sh Mx R (nI m) (nI i) = _
        unfold f_X3_findFits_13
        rw [if_neg (nI_ge hi (by omega)), ok_t (ix_k (show i < 4 by omega) (by decide)), nI_clamp (by omega), nm_u, pu_n (by omega), p1 27 2 (by decide) (by decide), a2 27 2 (by decide) (by decide) (by decide) (by decide) (by decide) (by omega), hn.1, nm_u, ok_t (ix_k (show i < 4 by omega) (by decide)), nm_u, nI_1]
      · by_cases e : g = i
        · subst e; exact ⟨by rw [pu_n (by omega), px_u_in], px_u_in _ _ _ _⟩
        · rw [pu_n (by omega), pu_n (by omega), pu_n (by omega), pu_n (by omega)]; exact p2 g (by omega))
    (fun Mx _ => by
      show f_X3_findFits_13 sh Mx R (nI m) (nI m) = _
      unfold f_X3_findFits_13
      rw [if_pos (Int32.le_refl _)]) m 0 Ma (by omega) ⟨fun _ _ _ _ => rfl, fun i hi => absurd hi (by omega)⟩
  obtain ⟨k1, k2, k3⟩ := K
  obtain ⟨Mb, hMb⟩ : ∃ Mb, Mb = fld (fun i (M' : px_M) => px_u (px_u M' 35 i 0) 37 i (nI nc - 1)) 0 m Ma := ⟨_, rfl⟩
  rw [← hMb] at k1 k2 k3
  have hsb : scrH M Mb := fun c j c1 c2 c3 c4 c5 c6 => by rw [k2 c j c3 c4]; exact a2 c j c1 c2 c3 c4 c5 c6
  have hShb : ∀ M1 : px_M, (∀ c j, c = 33 ∨ c = 34 → M1 c j = Ma c j) → ∀ e, e < 17 → ShI M M1 pa np m nc e := by
    intro M1 hx e he
    obtain ⟨s1, s2⟩ := a4 e he
    exact ⟨by rw [hx 33 e (Or.inl rfl)]; exact s1, fun i c hi hc => by rw [hx 34 _ (Or.inr rfl)]; exact s2 i c hi hc⟩
  have hstart : f_X3_findFits sh M R (nI m) = (if nI nc ≤ 0 then f_X3_findFits_55 sh Mb R (nI m) 0 else f_X3_findFits_55 sh Mb R (nI m) 1) := by
    unfold f_X3_findFits
    rw [nm_u, a1, bd1_e, show lpf (fun a : Int32 × px_M => f_X3_findFits_13 sh a.2 R (nI m) a.1) (0, Ma) = _ from k1, bd1_e, hsb 27 2 (by decide) (by decide) (by decide) (by decide) (by decide) (by omega), hn.1]
  by_cases hnc0 : nc = 0
  · subst hnc0
    have h0m : 0 ^ m = 0 := Nat.zero_pow (by omega)
    rw [h0m]
    refine ⟨Mb, ?_, hsb, hShb Mb (fun c j hc => k2 c j (by omega) (by omega)), ?_, fun i hi => ?_⟩
    · rw [hstart, if_pos (by decide)]
      unfold f_X3_findFits_55
      have : lpf (fun a : Int32 × Int32 × px_M => f_X3_findFits_59 sh a.2.2 R (nI m) a.1 a.2.1) (0, 0, Mb) = some Mb := lpf_end (by
        show f_X3_findFits_59 sh Mb R (nI m) 0 0 = _
        unfold f_X3_findFits_59
        rw [if_neg (by decide), if_pos rfl])
      rw [this, bd1_e, k2 27 13 (by decide) (by decide), a3]
      rfl
    · rw [k2 27 13 (by decide) (by decide), a3]; rfl
    · exact absurd hi (by unfold FL; simp)
  · have hT : Tn (fun _ => nc) m = nc ^ m := Tn_const nc m
    have hTle : nc ^ m ≤ 625 := Nat.le_trans (Nat.pow_le_pow_left n5 m) (Nat.le_trans (Nat.pow_le_pow_right (by decide) hm) (by decide))
    have hTpos : 0 < nc ^ m := Nat.pow_pos (by omega)
    have hd : ∀ t i, i < m → dgt (fun _ => nc) m t i < nc := fun t i hi => dgt_lt (sz := fun _ => nc) (fun _ => by omega) m t i hi
    have hloop : ∀ (k t : Nat) (M1 : px_M), t + k = nc ^ m → scrH M M1 → (∀ c j, c = 33 ∨ c = 34 → M1 c j = Ma c j) → (∀ i, i < m → M1 35 i = nI (dgt (fun _ => nc) m t i) ∧ M1 37 i = nI nc - 1) → FdI M M1 pa np m nc ns t →
        ∃ M2, lpf (fun a : Int32 × Int32 × px_M => f_X3_findFits_59 sh a.2.2 R (nI m) a.1 a.2.1) (b2 (decide (t < nc ^ m)), nI t, M1) = some M2 ∧ scrH M M2 ∧ (∀ c j, c = 33 ∨ c = 34 → M2 c j = Ma c j) ∧ FdI M M2 pa np m nc ns (nc ^ m) := by
      intro k
      induction k with
      | zero =>
        intro t M1 ht hs1 h33 h35 hF
        obtain rfl : t = nc ^ m := by omega
        refine ⟨M1, lpf_end ?_, hs1, h33, hF⟩
        show f_X3_findFits_59 sh M1 R (nI m) (b2 (decide (nc ^ m < nc ^ m))) (nI (nc ^ m)) = _
        unfold f_X3_findFits_59
        rw [decide_eq_false (Nat.lt_irrefl _), if_pos (show b2 false = 0 from rfl), ite_self]
      | succ k ih =>
        intro t M1 ht hs1 h33 h35 hF
        obtain ⟨f1, f2⟩ := hF
        have hlen := FL_len (M := M) (pa := pa) (np := np) (m := m) (nc := nc) (ns := ns) t
        have hnext : ∀ Mx : px_M, (∀ c j, c ≠ 38 → ¬ (c = 27 ∧ j = 13) → Mx c j = M1 c j) → ∃ M2, f_X11_nextRow sh Mx 35 36 37 (nI m) = some (b2 (decide (t + 1 < nc ^ m)), M2) ∧ (∀ i, i < m → M2 35 i = nI (dgt (fun _ => nc) m (t + 1) i)) ∧ ∀ a i, ¬ (a = 35 ∧ i < m) → M2 a i = Mx a i := by
          intro Mx hx
          obtain ⟨M2, r1, r2, r3⟩ := c_nextRow (sz := fun _ => nc) (fi := fun _ => 0) (sc_35 hS) (sc_36 hS) (sc_37 hS) (by decide) (by decide) (fun _ => ⟨by omega, n5⟩) (fun _ => by decide) (j := m) (t := t) (M := Mx) hm (fun f hf => ⟨by rw [hx 36 f (by decide) (by omega), hs1 36 f (by decide) (by decide) (by decide) (by decide) (by decide) (by omega)]; exact h36 f, by rw [hx 37 f (by decide) (by omega), (h35 f hf).2, Int32.zero_add]; exact pk_sub (b := 1) (by omega)⟩) (fun f hf => by rw [hx 35 f (by decide) (by omega), (h35 f hf).1, Int32.zero_add]) (by rw [hT]; omega)
          rw [hT] at r1
          exact ⟨M2, r1, fun i hi => by rw [r2 i hi, Int32.zero_add], r3⟩
        have hbody : ∃ M2, f_X3_findFits_59 sh M1 R (nI m) 1 (nI t) = some (.inl (b2 (decide (t + 1 < nc ^ m)), nI (t + 1), M2)) ∧ scrH M M2 ∧ (∀ c j, c = 33 ∨ c = 34 → M2 c j = Ma c j) ∧ (∀ i, i < m → M2 35 i = nI (dgt (fun _ => nc) m (t + 1) i) ∧ M2 37 i = nI nc - 1) ∧ FdI M M2 pa np m nc ns (t + 1) := by
          have hp := c_packed (M := M1) (m := m) (d := dgt (fun _ => nc) m t) hm (fun i hi => by have := hd t i hi; omega) (fun i hi => (h35 i hi).1)
          have hh := c_holdsAll (M' := M1) (pa := pa) (np := np) hH' hm (hd t) hs1 (hShb M1 h33)
          unfold f_X3_findFits_59 f_X3_findFits_109
          rw [if_neg (show ¬ 625 ≤ nI t from nI_ge (b := 625) (by omega) (by decide)), if_neg (by decide), hp, bd1_e, hh, bd1_e, ifi b2_0, nI_1]
          by_cases q : okV M pa np m ns (dgt (fun _ => nc) m t) = true
          · have qg : gv M pa np m nc ns t = true := q
            rw [if_neg (by rw [q]; decide), f1, ok_t (ix_k (show (FL M pa np m nc ns t).length < 625 by omega) (by decide)), nI_clamp (by omega), nm_u, pu_n (by omega), f1, nI_1, nm_u, nm_u]
            obtain ⟨Mx, hMx⟩ : ∃ Mx, Mx = px_u (px_u M1 38 (FL M pa np m nc ns t).length (nI (pkd (dgt (fun _ => nc) m t) m))) 27 13 (nI ((FL M pa np m nc ns t).length + 1)) := ⟨_, rfl⟩
            have hx : ∀ c j, c ≠ 38 → ¬ (c = 27 ∧ j = 13) → Mx c j = M1 c j := fun c j c1 c2 => by rw [hMx, pu_n (by omega), pu_n (by omega)]
            obtain ⟨M2, r1, r2, r3⟩ := hnext Mx hx
            rw [← hMx, r1, bd1_e]
            refine ⟨M2, rfl, fun c j c1 c2 c3 c4 c5 c6 => by rw [r3 c j (by omega), hx c j c5 c6]; exact hs1 c j c1 c2 c3 c4 c5 c6, fun c j hc => by rw [r3 c j (by omega), hx c j (by omega) (by omega)]; exact h33 c j hc, fun i hi => ⟨r2 i hi, by rw [r3 37 i (by omega), hx 37 i (by decide) (by omega)]; exact (h35 i hi).2⟩, ?_, fun i hi => ?_⟩
            · rw [r3 27 13 (by omega), hMx, px_u_in, FL_succ, if_pos qg, List.length_append]; rfl
            · rw [FL_succ, if_pos qg, List.length_append, List.length_singleton] at hi
              rw [r3 38 i (by omega), hMx, pu_n (by omega), FL_succ, if_pos qg]
              by_cases e : i = (FL M pa np m nc ns t).length
              · subst e
                rw [px_u_in]
                congr 2
                simp [List.getD_eq_getElem?_getD]
              · rw [pu_n (by omega), f2 i (by omega)]
                congr 3
                simp only [List.getD_eq_getElem?_getD]
                rw [List.getElem?_append_left (by omega)]
          · have qg : ¬ gv M pa np m nc ns t = true := q
            rw [if_pos (Bool.eq_false_iff.mpr q)]
            obtain ⟨M2, r1, r2, r3⟩ := hnext M1 (fun _ _ _ _ => rfl)
            rw [r1, bd1_e]
            refine ⟨M2, rfl, fun c j c1 c2 c3 c4 c5 c6 => by rw [r3 c j (by omega)]; exact hs1 c j c1 c2 c3 c4 c5 c6, fun c j hc => by rw [r3 c j (by omega)]; exact h33 c j hc, fun i hi => ⟨r2 i hi, by rw [r3 37 i (by omega)]; exact (h35 i hi).2⟩, ?_, fun i hi => ?_⟩
            · rw [r3 27 13 (by omega), FL_succ, if_neg qg, List.append_nil]; exact f1
            · rw [FL_succ, if_neg qg, List.append_nil] at hi ⊢
              rw [r3 38 i (by omega)]; exact f2 i hi
        obtain ⟨M2, r1, r2, r3, r4, r5⟩ := hbody
        rw [decide_eq_true (show t < nc ^ m by omega)]
        rw [lpf_go (body := fun a : Int32 × Int32 × px_M => f_X3_findFits_59 sh a.2.2 R (nI m) a.1 a.2.1) (a := (b2 true, nI t, M1)) r1]
        exact ih (t + 1) M2 (by omega) r2 r3 r4 r5
    have hz : ∀ i, dgt (fun _ => nc) m 0 i = 0 := by
      intro i
      have hzz : ∀ j, dgt (fun _ => nc) j 0 i = 0 := by
        intro j
        induction j with
        | zero => rfl
        | succ j ih =>
          unfold dgt
          split
          · exact Nat.zero_mod _
          · rw [Nat.zero_div]; exact ih
      exact hzz m
    obtain ⟨M2, r1, r2, r3, r4⟩ := hloop (nc ^ m) 0 Mb (by omega) hsb (fun c j hc => k2 c j (by omega) (by omega)) (fun i hi => ⟨by rw [(k3 i hi).1, hz i]; rfl, (k3 i hi).2⟩) ⟨by rw [k2 27 13 (by decide) (by decide), a3]; rfl, fun i hi => absurd hi (by unfold FL; simp)⟩
    refine ⟨M2, ?_, r2, hShb M2 r3, r4⟩
    rw [hstart, if_neg (nI_nle (by omega) (by omega))]
    unfold f_X3_findFits_55
    rw [decide_eq_true hTpos] at r1
    rw [show lpf (fun a : Int32 × Int32 × px_M => f_X3_findFits_59 sh a.2.2 R (nI m) a.1 a.2.1) (1, 0, Mb) = _ from r1, bd1_e, r4.1]
/-! the reference -/
theorem m_waysOf (hm : m ≤ 4) (h48 : M' 73 48 = nI nc) : f_X12_waysOf M' (nI m) = some (nI (nc ^ m)) := by
  have K := lpf_for (body := fun a : Int32 × Int32 => f_X12_waysOf_4 M' (nI m) a.1 a.2) (fun i (s : Int32) => (s, nI i)) (fun i _ => nI (nc ^ (i + 1))) (fun i s => s = nI (nc ^ i)) (fun s => s) m
    (fun i s hi hP => by
      refine ⟨?_, rfl⟩
      show f_X12_waysOf_4 M' (nI m) s (nI i) = _
      unfold f_X12_waysOf_4
      rw [if_neg (nI_ge hi (by omega)), h48, hP, pk_mul, nm_u, nI_1, Nat.pow_succ])
    (fun s _ => by
      show f_X12_waysOf_4 M' (nI m) s (nI m) = _
      unfold f_X12_waysOf_4
      rw [if_pos (Int32.le_refl _)]) m 0 1 (by omega) rfl
  unfold f_X12_waysOf
  have := K.1
  rw [K.2] at this
  rw [show lpf (fun a : Int32 × Int32 => f_X12_waysOf_4 M' (nI m) a.1 a.2) (1, 0) = _ from this]
  rfl
theorem m_seen (h : SailI sh M R np nf pa fp) (hH : HideI M nc ns) (he : eqH sh M M') (hm : m ≤ 4) (hmp : m ≤ np) {d : Nat → Nat} (hd : ∀ i, i < m → d i < nc) (h190 : ∀ i, i < m → M' 190 i = nI (d i)) (s : Int32) : f_X12_seen M' (nI m) s = some (sX M pa m np s + hpV M pa m d s) := by
  have h16 := h.1.1
  have h' : SailI sh M' R np nf pa fp := h.fr he.sm (fun _ => ⟨rfl, rfl⟩) (fun _ q => q)
  have n5 := hH.1.1
  have e5 : ∀ c j, md sh c j = 5 → ¬ (c = 27 ∧ j = 13) → M' c j = M c j := fun c j q => he c j (by rw [q]; decide)
  have K := lpf_for (body := fun a : Int32 × Int32 => f_X12_seen_5 M' (nI m) s a.1 a.2) (fun i (z : Int32) => (z, nI i)) (fun i z => z + if i < m then pC M pa s i (d i) else pX M pa s i) (fun _ _ => True) (fun z => z) np
    (fun i z hi _ => by
      refine ⟨?_, trivial⟩
      have hp := h'.2.2.1 i hi
      show f_X12_seen_5 M' (nI m) s z (nI i) = _
      unfold f_X12_seen_5 f_X12_seen_76
      rw [h'.2.1.2.1, if_neg (nI_ge hi (by omega)), ifi (nI_leI (a := m) (b := i) (by omega) (by omega))]
      by_cases q : i < m
      · have hdi := hd i q
        rw [if_neg (by omega), if_pos q, ok_t (ix_k (show i < 4 by omega) (by decide)), nI_clamp (by omega), nm_u, h190 i q, ok_t (ix_k (show d i < 5 by omega) (by decide)), ok_t (ix_k (show i < 4 by omega) (by decide)), nm_u, ok_t (ix_k (show d i < 5 by omega) (by decide)), nI_clamp (by omega), m_pushX h' hi, e_pushX5 (hk_t hp.1.2.1), bd1_e, nm_u, nI_1, e5 185 _ rfl (by omega), e5 186 _ rfl (by omega)]
        unfold pC
        rw [he.sm _ 5 (h.m5 hi 5), he.sm _ 2 (h.m5 hi 2), he.sm _ 6 (h.m5 hi 6), he.sm _ 9 (h.m5 hi 9)]
      · rw [if_pos (by omega), if_neg q, ok_t (ix_k (show i < 16 by omega) (by decide)), ok_t (ix_k (show i < 16 by omega) (by decide)), nI_clamp (by omega), m_pushX h' hi, e_pushX5 (hk_t hp.1.2.1), bd1_e, nm_u, nI_1, ← hp.2.1.2.2.2.1, ← hp.2.1.2.2.2.2.1, ← pX_fr h he.sm s hi]
        rfl)
    (fun z _ => by
      show f_X12_seen_5 M' (nI m) s z (nI np) = _
      unfold f_X12_seen_5
      rw [h'.2.1.2.1, if_pos (Int32.le_refl _)]) np 0 0 (by omega) trivial
  unfold f_X12_seen
  rw [show lpf (fun a : Int32 × Int32 => f_X12_seen_5 M' (nI m) s a.1 a.2) (0, 0) = _ from K.1, bd1_e]
  congr 1
  have e1 : np = m + (np - m) := by omega
  obtain ⟨g, hg⟩ : ∃ g : Nat → Int32 → Int32, g = fun i z => z + if i < m then pC M pa s i (d i) else pX M pa s i := ⟨_, rfl⟩
  rw [← hg, e1, fld_add, Nat.zero_add]
  have e2 : fld g 0 m 0 = hpV M pa m d s := by
    rw [hg]
    exact fld_congr _ _ _ fun j _ hj z => by rw [if_pos (show j < m by omega)]
  have e3 : ∀ a, fld g m (np - m) a = fld (fun i z => z + pX M pa s i) m (np - m) a := by
    intro a
    rw [hg]
    exact fld_congr _ _ _ fun j hj _ z => by rw [if_neg (show ¬ j < m by omega)]
  rw [e2, e3, fld_from, ← e1]
  show hpV M pa m d s + sX M pa m np s = _
  rw [Int32.add_comm]
theorem m_takes (h : SailI sh M R np nf pa fp) (hH : HideI M nc ns) (he : eqH sh M M') (hm : m ≤ 4) (hmp : m ≤ np) (hnc : nc ≠ 0) {v : Nat} (hv : v < 2 ^ 31) : ∃ M2, f_X12_takes M' (nI m) (nI v) = some (b2 (gv M pa np m nc ns v), M2) ∧ (∀ i, i < m → M2 190 i = nI (dgt (fun _ => nc) m v i)) ∧ ∀ c j, ¬ (c = 190 ∧ j < m) → M2 c j = M' c j := by
  have hH' := hH
  obtain ⟨⟨n5, n6⟩, hn, hco, hsi, -⟩ := hH
  have e5 : ∀ c j, md sh c j = 5 → ¬ (c = 27 ∧ j = 13) → M' c j = M c j := fun c j q => he c j (by rw [q]; decide)
  have h48 : M' 73 48 = nI nc := by rw [e5 73 48 rfl (by omega)]; exact hn.2.1
  have hdec : ∀ (j w : Nat) (M1 : px_M), j ≤ 4 → w < 2 ^ 31 → M1 73 48 = nI nc → ∃ M2, lpf (fun a : Int32 × Int32 × px_M => f_X12_takes_7 a.2.2 (nI m) a.1 a.2.1) (nI w, nI j - 1, M1) = some M2 ∧ (∀ i, i < j → M2 190 i = nI (dgt (fun _ => nc) j w i)) ∧ ∀ c i, ¬ (c = 190 ∧ i < j) → M2 c i = M1 c i := by
    intro j
    induction j with
    | zero =>
      intro w M1 _ _ _
      refine ⟨M1, lpf_end ?_, fun i hi => absurd hi (by omega), fun _ _ _ => rfl⟩
      show f_X12_takes_7 M1 (nI m) (nI w) (nI 0 - 1) = _
      unfold f_X12_takes_7
      rw [if_pos (by decide)]
    | succ j ih =>
      intro w M1 hj hw h1
      have hb : f_X12_takes_7 M1 (nI m) (nI w) (nI (j + 1) - 1) = some (.inl (nI (w / nc), nI j - 1, px_u M1 190 j (nI (w % nc)))) := by
        have hz : nz (nI nc) 0 = true := nz_t (nI_ne0 (by omega) (by omega))
        unfold f_X12_takes_7
        rw [nI_pred, if_neg (nI_pos (by omega)), h1, ok_t hz, nm_u, pk_rem hw (by omega) (by omega), ok_t (ix_k (show j < 4 by omega) (by decide)), nI_clamp (by omega), nm_u, pu_n (by omega), h1, ok_t hz, nm_u, pk_div hw (by omega) (by omega), show nI j + -1 = nI j - 1 by rw [Int32.sub_eq_add_neg]]
      obtain ⟨M2, r1, r2, r3⟩ := ih (w / nc) (px_u M1 190 j (nI (w % nc))) (by omega) (Nat.lt_of_le_of_lt (Nat.div_le_self _ _) hw) (by rw [pu_n (by omega)]; exact h1)
      refine ⟨M2, ?_, fun i hi => ?_, fun c i hx => by rw [r3 c i (by omega), pu_n (by omega)]⟩
      · rw [lpf_go (body := fun a : Int32 × Int32 × px_M => f_X12_takes_7 a.2.2 (nI m) a.1 a.2.1) (a := (nI w, nI (j + 1) - 1, M1)) hb]
        exact r1
      · unfold dgt
        by_cases e : i = j
        · rw [if_pos e, e, r3 190 j (by omega), px_u_in]
        · rw [if_neg e]; exact r2 i (by omega)
  obtain ⟨M2, r1, r2, r3⟩ := hdec m v M' hm hv h48
  have hd : ∀ i, i < m → dgt (fun _ => nc) m v i < nc := fun i hi => dgt_lt (sz := fun _ => nc) (fun _ => by omega) m v i hi
  have he2 : eqH sh M M2 := he.tr fun c j q => r3 c j (fun x => q (by rw [x.1]; rfl))
  have e52 : ∀ c j, md sh c j = 5 → ¬ (c = 27 ∧ j = 13) → M2 c j = M c j := fun c j q => he2 c j (by rw [q]; decide)
  have hbody : ∀ i, i < ns → f_X12_takes_41 M2 (nI m) (nI i) = if am (sX M pa m np (M 187 i) + hpV M pa m (dgt (fun _ => nc) m v) (M 187 i) - M 188 i) ≤ M 189 i then some (.inl (nI (i + 1))) else some (.inr (.inl ())) := by
    intro i hi
    unfold f_X12_takes_41
    rw [e52 73 49 rfl (by omega), hn.2.2.2, if_neg (nI_ge hi (by omega)), ok_t (ix_k (show i < 6 by omega) (by decide)), nI_clamp (by omega), m_seen h hH' he2 hm hmp hd r2, bd1_e, ok_t (ix_k (show i < 6 by omega) (by decide)), e_amount, bd1_e, ok_t (ix_k (show i < 6 by omega) (by decide)), e52 187 i rfl (by omega), e52 188 i rfl (by omega), e52 189 i rfl (by omega), nI_1]
  have K := find_b (body := fun a => f_X12_takes_41 M2 (nI m) a) (N := ns) (c := fun i => ¬ okS_ M pa np m (dgt (fun _ => nc) m v) i)
    (fun i hi hc => (hbody i hi).trans (if_pos (Classical.not_not.mp hc))) (fun i hi hc => (hbody i hi).trans (if_neg hc)) (by
      show f_X12_takes_41 M2 (nI m) (nI ns) = _
      unfold f_X12_takes_41
      rw [e52 73 49 rfl (by omega), hn.2.2.2, if_pos (Int32.le_refl _)])
  refine ⟨M2, ?_, r2, r3⟩
  unfold f_X12_takes gv
  rw [nm_u, r1, bd1_e]
  rcases K with ⟨k1, k2⟩ | ⟨k1, i, k2, k3⟩
  · rw [k1, (okV_iff (d := dgt (fun _ => nc) m v)).mpr fun i hi => Classical.not_not.mp (k2 i hi)]; rfl
  · rw [k1, Bool.eq_false_iff.mpr fun q => k3 ((okV_iff (d := dgt (fun _ => nc) m v)).mp q i k2)]; rfl
end FITS2
