/-! shows -/
section SHOWS2
variable {sh : px_Sh} {M M' : px_M} {L : px_L} {R : px_R} {np nf nc ns m : Nat} {pa fp : Nat → Nat}
/-- the best slant, after the slants below e -/
def bsS (nn : Nat → Nat) (e : Nat) (s : Int32 × Int32) : Int32 × Int32 := if nI (nn e) ≤ s.2 then s else (nI e - 8, nI (nn e))
theorem not8 {e : Nat} (he : e < 17) : ¬ 8 < nI e - 8 := by
  rw [Int32.lt_iff_toInt_lt, show (nI e - 8).toInt = (e : Int) - 8 from pk_sub_toInt (b := 8) (by omega) (by decide), show (8 : Int32).toInt = 8 from by decide]
  omega
theorem nxt8 (e : Nat) : nI e - 8 + 1 = nI (e + 1) - 8 := by rw [← nI_1]; grind
theorem c_bestSlant {nn : Nat → Nat} (hu : ∀ e L, e < 17 → ∃ L2, f_X3_unlikePushes M' L (nI m) (nI e - 8) = some (nI (nn e), L2) ∧ ∀ c j, c ≠ 39 → L2 c j = L c j) : ∃ L2, f_X3_bestSlant M' L (nI m) = some ((fld (bsS nn) 0 17 (0, 0)).1, L2) ∧ ∀ c j, c ≠ 39 → L2 c j = L c j := by
  have hloop : ∀ (k e : Nat) (s : Int32 × Int32) (Lx : px_L), e + k = 17 → (∀ c j, c ≠ 39 → Lx c j = L c j) → ∃ L2, lpf (fun a : Int32 × Int32 × Int32 × px_L => f_X3_bestSlant_8 M' a.2.2.2 (nI m) a.1 a.2.1 a.2.2.1) (s.1, s.2, nI e - 8, Lx) = some ((fld (bsS nn) e k s).1, L2) ∧ ∀ c j, c ≠ 39 → L2 c j = L c j := by
    intro k
    induction k with
    | zero =>
      intro e s Lx he hL
      obtain rfl : e = 17 := by omega
      refine ⟨Lx, lpf_end ?_, hL⟩
      show f_X3_bestSlant_8 M' Lx (nI m) s.1 s.2 (nI 17 - 8) = _
      unfold f_X3_bestSlant_8
      rw [if_pos (by decide)]
      rfl
    | succ k ih =>
      intro e s Lx he hL
      obtain ⟨L2, r1, r2⟩ := hu e Lx (by omega)
      have hb : f_X3_bestSlant_8 M' Lx (nI m) s.1 s.2 (nI e - 8) = some (.inl ((bsS nn e s).1, (bsS nn e s).2, nI (e + 1) - 8, L2)) := by
        unfold f_X3_bestSlant_8 f_X3_bestSlant_36 bsS
        rw [if_neg (not8 (by omega)), r1, bd1_e, nxt8]
        dsimp only
        split <;> rfl
      rw [lpf_go (body := fun a : Int32 × Int32 × Int32 × px_L => f_X3_bestSlant_8 M' a.2.2.2 (nI m) a.1 a.2.1 a.2.2.1) (a := (s.1, s.2, nI e - 8, Lx)) hb]
      exact ih (e + 1) _ L2 (by omega) (fun c j hc => (r2 c j hc).trans (hL c j hc))
  obtain ⟨L2, r1, r2⟩ := hloop 17 0 (0, 0) L (by omega) (fun _ _ _ => rfl)
  refine ⟨L2, ?_, r2⟩
  unfold f_X3_bestSlant
  rw [show lpf (fun a : Int32 × Int32 × Int32 × px_L => f_X3_bestSlant_8 M' a.2.2.2 (nI m) a.1 a.2.1 a.2.2.1) (0, 0, -8, L) = _ from r1, bd1_e]
/-- the reference counts unlike pushes at one slant -/
theorem m_unlike (h : SailI sh M R np nf pa fp) (hH : HideI M nc ns) (hm : m ≤ 4) (hm1 : 1 ≤ m) (hmp : m ≤ np) {e : Nat} (he17 : e < 17) (x2 x3 : Int32) {Mx : px_M} (he : eqH sh M Mx) (h0 : Mx 73 0 = 0) :
    ∃ M2, lpf (fun a : Int32 × Int32 × px_M => f_X12_shows_59 a.2.2 (nI m) x2 x3 (nI e - 8) a.1 a.2.1) (0, 0, Mx) = some (nI (DL M pa m nc e (FL M pa np m nc ns (nc ^ m))).length, M2) ∧ eqH sh M M2 ∧ M2 73 0 = 0 := by
  have n5 := hH.1.1
  have hTle : nc ^ m ≤ 625 := Nat.le_trans (Nat.pow_le_pow_left n5 m) (Nat.le_trans (Nat.pow_le_pow_right (by decide) hm) (by decide))
  obtain ⟨rs, hrs⟩ : ∃ rs, rs = sX M pa m np (nI e - 8) := ⟨_, rfl⟩
  have hloop : ∀ (k v : Nat) (Mx : px_M), v + k = nc ^ m → eqH sh M Mx → Mx 73 0 = 0 → (∀ i, i < (DL M pa m nc e (FL M pa np m nc ns v)).length → Mx 191 i = rs + nI ((DL M pa m nc e (FL M pa np m nc ns v)).getD i 0)) →
      ∃ M2, lpf (fun a : Int32 × Int32 × px_M => f_X12_shows_59 a.2.2 (nI m) x2 x3 (nI e - 8) a.1 a.2.1) (nI (DL M pa m nc e (FL M pa np m nc ns v)).length, nI v, Mx) = some (nI (DL M pa m nc e (FL M pa np m nc ns (nc ^ m))).length, M2) ∧ eqH sh M M2 ∧ M2 73 0 = 0 := by
    intro k
    induction k with
    | zero =>
      intro v Mx hv he h0 h191
      obtain rfl : v = nc ^ m := by omega
      refine ⟨Mx, lpf_end ?_, he, h0⟩
      show f_X12_shows_59 Mx (nI m) x2 x3 (nI e - 8) _ (nI (nc ^ m)) = _
      unfold f_X12_shows_59
      rw [m_waysOf hm ((he.hide hH).2.1.2.1), bd1_e, if_pos (Int32.le_refl _)]
    | succ k ih =>
      intro v Mx hv he h0 h191
      have hnc : nc ≠ 0 := fun q => by
        rw [q, Nat.zero_pow (by omega)] at hv
        omega
      obtain ⟨M2, t1, t2, t3⟩ := m_takes h hH he hm hmp hnc (v := v) (by omega)
      have he2 : eqH sh M M2 := he.tr fun c j q => t3 c j (fun x => q (by rw [x.1]; rfl))
      have h02 : M2 73 0 = 0 := by rw [t3 73 0 (by omega)]; exact h0
      obtain ⟨D, hD⟩ : ∃ D, D = DL M pa m nc e (FL M pa np m nc ns v) := ⟨_, rfl⟩
      have hDl : D.length ≤ 625 := by
        rw [hD]
        have a1 := DL_len (M := M) (pa := pa) (m := m) (nc := nc) e _ (FL M pa np m nc ns v) rfl
        have a2 := FL_len (M := M) (pa := pa) (np := np) (m := m) (nc := nc) (ns := ns) v
        omega
      have hDl2 : D.length ≤ v := by
        rw [hD]
        have a1 := DL_len (M := M) (pa := pa) (m := m) (nc := nc) e _ (FL M pa np m nc ns v) rfl
        have a2 := FL_len (M := M) (pa := pa) (np := np) (m := m) (nc := nc) (ns := ns) v
        omega
      have hDb : ∀ y, y ∈ D → y ≤ 8000 := by rw [hD]; exact DL_lt h hH hm hmp hnc e _ _ rfl
      rw [← hD] at h191 ⊢
      have h191' : ∀ i, i < D.length → M2 191 i = rs + nI (D.getD i 0) := fun i hi => by rw [t3 191 i (by omega)]; exact h191 i hi
      have hbody : ∃ M3, f_X12_shows_59 Mx (nI m) x2 x3 (nI e - 8) (nI D.length) (nI v) = some (.inl (nI (DL M pa m nc e (FL M pa np m nc ns (v + 1))).length, nI (v + 1), M3)) ∧ eqH sh M M3 ∧ M3 73 0 = 0 ∧ ∀ i, i < (DL M pa m nc e (FL M pa np m nc ns (v + 1))).length → M3 191 i = rs + nI ((DL M pa m nc e (FL M pa np m nc ns (v + 1))).getD i 0) := by
        unfold f_X12_shows_59 f_X12_shows_151
        rw [m_waysOf hm ((he.hide hH).2.1.2.1), bd1_e, if_neg (nI_ge (by omega) (by omega)), t1, bd1_e]
        dsimp only
        rw [ifi b2_0, nI_1, FL_succ]
        by_cases q : gv M pa np m nc ns v = true
        · rw [if_neg (by rw [q]; decide), if_pos q, DL_snoc, ← hD]
          obtain ⟨b1, b2'⟩ := hN_b h hH hm hmp hnc e v
          obtain ⟨x, hx⟩ : ∃ x, x = hN M pa m nc e v := ⟨_, rfl⟩
          rw [← hx] at b1 b2' ⊢
          rw [m_seen h hH he2 hm hmp (fun i hi => dgt_lt (sz := fun _ => nc) (fun _ => by omega) m v i hi) t2, bd1_e, b2', ← hrs]
          -- is it new?
          have hnew : lpf (fun a : Int32 × Int32 => f_X12_shows_97 M2 (nI m) x2 x3 (nI e - 8) (nI D.length) (nI v) (rs + nI x) a.1 a.2) (1, 0) = some (b2 (!D.contains x)) := by
            have hl : ∀ (k i : Nat), i + k = D.length → lpf (fun a : Int32 × Int32 => f_X12_shows_97 M2 (nI m) x2 x3 (nI e - 8) (nI D.length) (nI v) (rs + nI x) a.1 a.2) (b2 (!(D.take i).contains x), nI i) = some (b2 (!D.contains x)) := by
              intro k
              induction k with
              | zero =>
                intro i hi
                obtain rfl : i = D.length := by omega
                rw [List.take_length]
                apply lpf_end
                show f_X12_shows_97 M2 (nI m) x2 x3 (nI e - 8) (nI D.length) (nI v) (rs + nI x) _ (nI D.length) = _
                unfold f_X12_shows_97
                rw [if_pos (Int32.le_refl _)]
              | succ k ih =>
                intro i hi
                have htk : D.take (i + 1) = D.take i ++ [D.getD i 0] := by
                  rw [List.take_succ, List.getD_eq_getElem?_getD, List.getElem?_eq_getElem (by omega)]
                  rfl
                have hmm : D.getD i 0 ∈ D := by rw [gd_in (by omega)]; exact List.getElem_mem _
                have hyb := hDb _ hmm
                have hb : f_X12_shows_97 M2 (nI m) x2 x3 (nI e - 8) (nI D.length) (nI v) (rs + nI x) (b2 (!(D.take i).contains x)) (nI i) = some (.inl (b2 (!(D.take (i + 1)).contains x), nI (i + 1))) := by
                  have hceq : (rs + nI (D.getD i 0) = rs + nI x) ↔ D.getD i 0 = x := by
                    constructor
                    · intro z
                      have z2 : nI (D.getD i 0) = nI x := by grind
                      exact (nI_eq (by omega) (by omega)).mp z2
                    · intro z; rw [z]
                  unfold f_X12_shows_97 f_X12_shows_125 f_X12_shows_126
                  rw [if_neg (nI_ge (by omega) (by omega)), ok_t (ix_k (show i < 625 by omega) (by decide)), nI_clamp (by omega), h191' i (by omega), ifi hceq, ifi b2_0, nI_1, htk]
                  have hca : (D.take i ++ [D.getD i 0]).contains x = ((D.take i).contains x || decide (D.getD i 0 = x)) := by
                    rw [Bool.eq_iff_iff, List.contains_iff_mem, Bool.or_eq_true, List.contains_iff_mem, decide_eq_true_iff, List.mem_append, List.mem_singleton]
                    exact ⟨fun z => z.elim Or.inl fun y => Or.inr y.symm, fun z => z.elim Or.inl fun y => Or.inr y.symm⟩
                  rw [hca]
                  cases hcc : (D.take i).contains x with
                  | true => rw [if_pos (by rfl)]; rfl
                  | false =>
                    rw [if_neg (by decide)]
                    by_cases z : D.getD i 0 = x
                    · rw [if_pos z, decide_eq_true z]; rfl
                    · rw [if_neg z, decide_eq_false z]; rfl
                rw [lpf_go (body := fun a : Int32 × Int32 => f_X12_shows_97 M2 (nI m) x2 x3 (nI e - 8) (nI D.length) (nI v) (rs + nI x) a.1 a.2) (a := (b2 (!(D.take i).contains x), nI i)) hb]
                exact ih (i + 1) (by omega)
            exact hl D.length 0 (by omega)
          rw [hnew, bd1_e, ifi b2_0]
          cases hcc : D.contains x with
          | true =>
            rw [if_pos rfl, if_pos (show (!true) = false from rfl)]
            exact ⟨M2, rfl, he2, h02, h191'⟩
          | false =>
            rw [if_neg (by decide), if_neg (by decide), ok_t (ix_k (show D.length < 625 by omega) (by decide)), nI_clamp (by omega), nm_u, nI_1, List.length_append, List.length_singleton]
            refine ⟨px_u M2 191 D.length (rs + nI x), rfl, he2.tr fun c j z => pu_n (fun y => z (by rw [y.1]; rfl)), by rw [pu_n (by omega)]; exact h02, fun i hi => ?_⟩
            by_cases z : i = D.length
            · subst z
              rw [px_u_in]
              congr 2
              simp [List.getD_eq_getElem?_getD]
            · rw [pu_n (by omega), h191' i (by omega)]
              congr 2
              simp only [List.getD_eq_getElem?_getD]
              rw [List.getElem?_append_left (by omega)]
        · rw [if_pos (Bool.eq_false_iff.mpr q), if_neg q, List.append_nil, ← hD]
          exact ⟨M2, rfl, he2, h02, h191'⟩
      obtain ⟨M3, r1, r2, r3, r4⟩ := hbody
      rw [lpf_go (body := fun a : Int32 × Int32 × px_M => f_X12_shows_59 a.2.2 (nI m) x2 x3 (nI e - 8) a.1 a.2.1) (a := (nI D.length, nI v, Mx)) r1]
      exact ih (v + 1) M3 (by omega) r2 r3 r4
  exact hloop (nc ^ m) 0 Mx (by omega) he h0 (fun i hi => absurd hi (by unfold FL DL; simp))
theorem p_shows (hI : Isail sh M R) (hH : Ihide M) (hS : SR sh R) (p1 : Int32) :
    (∃ r M1 L1 M2, f_X11_shows sh M L R p1 = some (.inl (r, M1, L1)) ∧ f_X12_shows M1 p1 = some (r, M2) ∧ M2 73 0 = 0 ∧ kp sh [5] M M2 ∧ kp sh [] L L1 ∧ Ihide M2) ∨ (f_X11_shows sh M L R p1 = some (.inr 0) ∧ f_X12_shows M p1 = some (0, px_t M 1)) := by
  obtain ⟨np, nf, pa, fp, h⟩ := hI
  obtain ⟨nc, ns, hH⟩ := hH.of
  rcases fit_in (M := M) h.2.1.1 h.1.1 p1 with ⟨m, m1, m4, mp, rfl, w1, w2, w3⟩ | ⟨w1, w2⟩
  · left
    have n5 := hH.1.1
    obtain ⟨M1, c1, c2, c3, c4⟩ := c_findFits h hH hS m4 m1 mp
    have hTle : nc ^ m ≤ 625 := Nat.le_trans (Nat.pow_le_pow_left n5 m) (Nat.le_trans (Nat.pow_le_pow_right (by decide) m4) (by decide))
    obtain ⟨nn, hnn⟩ : ∃ nn : Nat → Nat, nn = fun e => (DL M pa m nc e (FL M pa np m nc ns (nc ^ m))).length := ⟨_, rfl⟩
    have hlen := FL_len (M := M) (pa := pa) (np := np) (m := m) (nc := nc) (ns := ns) (nc ^ m)
    have hnb : ∀ e, nn e ≤ 625 := fun e => by
      rw [hnn]
      have := DL_len (M := M) (pa := pa) (m := m) (nc := nc) e _ (FL M pa np m nc ns (nc ^ m)) rfl
      dsimp only
      omega
    -- the reference goes through the slants
    have hloop : ∀ (k e : Nat) (s : Int32 × Int32) (Mx : px_M), e + k = 17 → eqH sh M Mx → Mx 73 0 = 0 → ∃ M2, lpf (fun a : Int32 × Int32 × Int32 × px_M => f_X12_shows_46 a.2.2.2 (nI m) a.1 a.2.1 a.2.2.1) (s.1, s.2, nI e - 8, Mx) = some ((fld (bsS nn) e k s).1, M2) ∧ eqH sh M M2 ∧ M2 73 0 = 0 := by
      intro k
      induction k with
      | zero =>
        intro e s Mx he hx h0
        obtain rfl : e = 17 := by omega
        refine ⟨Mx, lpf_end ?_, hx, h0⟩
        show f_X12_shows_46 Mx (nI m) s.1 s.2 (nI 17 - 8) = _
        unfold f_X12_shows_46
        rw [if_pos (by decide)]
        rfl
      | succ k ih =>
        intro e s Mx he hx h0
        obtain ⟨M2, r1, r2, r3⟩ := m_unlike h hH m4 m1 mp (show e < 17 by omega) s.1 s.2 hx h0
        have hb : f_X12_shows_46 Mx (nI m) s.1 s.2 (nI e - 8) = some (.inl ((bsS nn e s).1, (bsS nn e s).2, nI (e + 1) - 8, M2)) := by
          unfold f_X12_shows_46 f_X12_shows_169 bsS
          rw [if_neg (not8 (by omega)), r1, bd1_e, nxt8, hnn]
          dsimp only
          split <;> rfl
        rw [lpf_go (body := fun a : Int32 × Int32 × Int32 × px_M => f_X12_shows_46 a.2.2.2 (nI m) a.1 a.2.1 a.2.2.1) (a := (s.1, s.2, nI e - 8, Mx)) hb]
        exact ih (e + 1) _ M2 (by omega) r2 r3
    obtain ⟨M2, r1, r2, r3⟩ := hloop 17 0 (-9, 0) (px_u M1 73 0 0) (by omega) (eq_u0 c2.eq 0) (px_u_in _ _ _ _)
    have hm2 : f_X12_shows M1 (nI m) = some ((fld (bsS nn) 0 17 (-9, 0)).1, M2) := by
      have e9 : (px_u M1 73 0 0) 73 9 = nI np := by rw [(eq_u0 c2.eq 0).sm (sh := sh) 73 9 rfl]; exact h.2.1.2.1
      unfold f_X12_shows f_X12_shows_28
      rw [nm_u, w2, bd1_e, if_neg (by decide), e9, if_pos w3, e_bf, bd1_e, if_pos rfl]
      dsimp only
      rw [show lpf (fun a : Int32 × Int32 × Int32 × px_M => f_X12_shows_46 a.2.2.2 (nI m) a.1 a.2.1 a.2.2.1) (-9, 0, -8, px_u M1 73 0 0) = _ from r1, bd1_e]
    by_cases hnil : FL M pa np m nc ns (nc ^ m) = []
    · have hz : ∀ e, nn e = 0 := fun e => by rw [hnn, hnil]; rfl
      have hf : ∀ (k e : Nat), (fld (bsS nn) e k (-9, 0)) = (-9, 0) := by
        intro k
        induction k with
        | zero => intro e; rfl
        | succ k ih =>
          intro e
          show fld (bsS nn) (e + 1) k (bsS nn e (-9, 0)) = _
          have : bsS nn e (-9, 0) = (-9, 0) := by
            unfold bsS
            rw [hz e, if_pos (by decide)]
          rw [this]; exact ih (e + 1)
      rw [hf 17 0] at hm2
      refine ⟨-9, M1, L, M2, ?_, hm2, r3, kp_5 r2, kp.rf, nc, ns, r2.hide hH⟩
      unfold f_X11_shows f_X11_shows_8 f_X11_shows_36
      rw [w1, bd1_e, if_neg (by decide), c1, bd1_e, hnil]
      rfl
    · have hpos : 0 < (FL M pa np m nc ns (nc ^ m)).length := by
        cases hc : FL M pa np m nc ns (nc ^ m) with
        | nil => exact absurd hc hnil
        | cons a t => simp
      have hnc : nc ≠ 0 := fun q => by
        rw [q, Nat.zero_pow (by omega)] at hlen
        rw [q, Nat.zero_pow (by omega)] at hpos
        omega
      obtain ⟨L1, b1, b2'⟩ := c_bestSlant (M' := M1) (L := L) (m := m) (nn := nn) (fun e Lx he => by
        obtain ⟨L2, u1, u2⟩ := c_unlike (L := Lx) h hH m4 m1 mp hnc he (c3 e he) c4
        exact ⟨L2, by rw [u1, hnn], u2⟩)
      have h0pos : 0 < nn 0 := by
        rw [hnn]
        dsimp only
        obtain ⟨l', w, hlw⟩ : ∃ l' w, FL M pa np m nc ns (nc ^ m) = l' ++ [w] := ⟨_, _, (List.dropLast_concat_getLast hnil).symm⟩
        rw [hlw, DL_snoc]
        split
        next hc =>
          have := List.contains_iff_mem.mp hc
          exact List.length_pos_of_mem this
        next => rw [List.length_append, List.length_singleton]; omega
      have hsame : fld (bsS nn) 0 17 (0, 0) = fld (bsS nn) 0 17 (-9, 0) := by
        show fld (bsS nn) 1 16 (bsS nn 0 (0, 0)) = fld (bsS nn) 1 16 (bsS nn 0 (-9, 0))
        have hb0 := hnb 0
        have e1 : ∀ z : Int32, bsS nn 0 (z, 0) = (nI 0 - 8, nI (nn 0)) := fun z => by
          unfold bsS
          rw [if_neg (nI_nle h0pos (by omega))]
        rw [e1, e1]
      refine ⟨(fld (bsS nn) 0 17 (-9, 0)).1, M1, L1, M2, ?_, hm2, r3, kp_5 r2, fun c j hn => b2' c j (fun q => hn (by rw [q]; exact List.mem_cons_self)), nc, ns, r2.hide hH⟩
      unfold f_X11_shows f_X11_shows_8 f_X11_shows_36
      rw [w1, bd1_e, if_neg (by decide), c1, bd1_e, if_neg (nI_nle hpos (by omega))]
      dsimp only
      rw [b1, bd1_e, bd1_e, hsame]
  · right
    have hb : f_X12_shows_23 (px_u M 73 0 0) p1 = some (0, px_t M 1) := by
      unfold f_X12_shows_23 f_X12_shows_28
      rw [e_bt (by decide), bd1_e]; rfl
    have e9 : (px_u M 73 0 0) 73 9 = nI np := h.2.1.2.1
    unfold f_X11_shows f_X12_shows
    rw [w1, bd1_e, if_pos rfl, nm_u, e9, hb]
    refine ⟨rfl, ?_⟩
    rcases w2 with w2 | ⟨w2, w3⟩
    · rw [w2, bd1_e, if_pos rfl]
    · rw [w2, bd1_e, if_neg (by decide), if_neg w3]
end SHOWS2
