/-! the class's scan -/
theorem ltL {a b : Nat} (w : Int32) (hw : w = nI b) (ha : a < 2 ^ 31) (hb : b < 2 ^ 31) : nI a < w ↔ a < b := by rw [hw]; exact nI_ltI ha hb
theorem ltL' {a b : Nat} (w : Int32) (hw : w = nI a) (ha : a < 2 ^ 31) (hb : b < 2 ^ 31) : w < nI b ↔ a < b := by rw [hw]; exact nI_ltI ha hb
theorem leL {a b : Nat} (w : Int32) (hw : w = nI b) (ha : a < 2 ^ 31) (hb : b < 2 ^ 31) : nI a ≤ w ↔ a ≤ b := by rw [hw]; exact nI_leI ha hb
theorem leL' {a b : Nat} (w : Int32) (hw : w = nI a) (ha : a < 2 ^ 31) (hb : b < 2 ^ 31) : w ≤ nI b ↔ a ≤ b := by rw [hw]; exact nI_leI ha hb
theorem eqL {a b : Nat} (w : Int32) (hw : w = nI b) (ha : a < 2 ^ 31) (hb : b < 2 ^ 31) : nI a = w ↔ a = b := by rw [hw]; exact nI_eq ha hb
section SCAN
variable {tx : Nat → Nat} {n : Nat} {M0 : px_M} {A b0 : Nat} {C : List Int32} {a x k u o m l : Int32}
theorem c_word_in (hn : n ≤ 300) (ht : ∀ i, i < n → M0 21 i = nI (tx i) ∧ tx i < 256) (hA : A ≠ 21) (hb : b0 ≠ 21) {p w : Nat} (hp : p < n) (hw : w < 16) (hl : we tx n p - p ≤ 5) (x1 : Int32) (hx : x1 = nI w) :
    ∃ s, lpf (fun q : Int32 × Int32 => f_X6_scanWord_84 (csM M0 A b0 C (nI p) (nI (we tx n p)) k u o m l) x1 q.1 q.2) (0, 0) = some (nI s) ∧ s ≤ 5 ∧ (s = 5 ↔ wd tx n p = Wt.getD w 0) := by
  have hW := we_ge (tx := tx) (n := n) p
  have hW2 := we_le (tx := tx) (n := n) (p := p) (by omega)
  obtain ⟨W, eW⟩ : ∃ W, W = we tx n p := ⟨_, rfl⟩
  rw [← eW] at hl hW hW2 ⊢
  have hlet : ∀ i, p + i < W → 97 ≤ tx (p + i) ∧ tx (p + i) ≤ 122 := fun i hi => (isSm_iff.mp (skp_mid (isSm tx n) 300 p (p + i) (by omega) (by rw [eW] at hi; exact hi))).2
  have K := lpf_for (body := fun q : Int32 × Int32 => f_X6_scanWord_84 (csM M0 A b0 C (nI p) (nI W) k u o m l) x1 q.1 q.2) (fun i (s : Nat) => (nI s, nI i)) (fun i s => s + if sg (W - p) i (tx (p + i)) = chL.getD (w * 5 + i) 0 then 1 else 0) (fun i s => s ≤ i) (fun s => nI s) 5
    (fun i s hi hP => by
      refine ⟨?_, by split <;> omega⟩
      show f_X6_scanWord_84 _ x1 (nI s) (nI i) = _
      have fin : ∀ d, d < 256 → f_X6_scanWord_118 (csM M0 A b0 C (nI p) (nI W) k u o m l) x1 (nI s) (nI i) (nI d) = some (.inl (nI (s + if d = chL.getD (w * 5 + i) 0 then 1 else 0), nI (i + 1))) := by
        intro d hd
        have e1 : x1 * 5 + nI i = nI (w * 5 + i) := by rw [hx, show (5 : Int32) = nI 5 from rfl, pk_mul, nI_add]
        have hc := chL_lt (w * 5 + i) (by omega)
        unfold f_X6_scanWord_118 f_X6_scanWord_141
        simp only [nm_u, e1]
        rw [ok_t (ix_k (show w * 5 + i < 80 by omega) (by decide)), nI_clamp (show w * 5 + i < 2 ^ 31 by omega), chL_ok _ (by omega), ifi (nI_eq (a := d) (b := chL.getD (w * 5 + i) 0) (by omega) (by omega))]
        by_cases e : d = chL.getD (w * 5 + i) 0
        · rw [if_pos e, if_pos e, nI_1, nI_1]
        · rw [if_neg e, if_neg e]
          rw [show nI s + 0 = nI (s + 0) from nI_add s 0, nI_1]
      unfold f_X6_scanWord_84
      rw [if_neg (show ¬ 5 ≤ nI i from nI_ge (b := 5) hi (by decide)), cs3, cs4, nI_add, ifi (nI_leI (a := W) (b := p + i) (by omega) (by omega))]
      unfold sg
      by_cases e : W ≤ p + i
      · rw [if_pos e, if_neg (show ¬ i < W - p by omega)]
        exact fin 32 (by decide)
      · rw [if_neg e, if_pos (show i < W - p by omega), nm_u, ok_t (ix_k (show p + i < 300 by omega) (by decide)), nI_clamp (show p + i < 2 ^ 31 by omega), cs_o (by decide) hb.symm hA.symm, (ht (p + i) (by omega)).1]
        exact fin _ (ht (p + i) (by omega)).2)
    (fun s _ => by
      show f_X6_scanWord_84 _ x1 (nI s) (nI 5) = _
      unfold f_X6_scanWord_84
      rw [if_pos (by decide)]) 5 0 0 rfl (Nat.le_refl _)
  refine ⟨_, K.1, K.2, ?_⟩
  have hwd : wd tx n p = cd5 (W - p) (tx (p + 0)) (tx (p + 1)) (tx (p + 2)) (tx (p + 3)) (tx (p + 4)) := by
    unfold wd
    rw [← eW, if_pos hl, wcd_5 tx p hl]
  rw [hwd, ← wm (W - p) _ _ _ _ _ w hw hl (fun h => hlet 0 (by omega)) (fun h => hlet 1 (by omega)) (fun h => hlet 2 (by omega)) (fun h => hlet 3 (by omega)) (fun h => hlet 4 (by omega))]
  show 0 + (if _ then 1 else 0) + (if _ then 1 else 0) + (if _ then 1 else 0) + (if _ then 1 else 0) + (if _ then 1 else 0) = 5 ↔ _
  by_cases c0 : sg (W - p) 0 (tx (p + 0)) = chL.getD (w * 5 + 0) 0
  · by_cases c1 : sg (W - p) (0 + 1) (tx (p + (0 + 1))) = chL.getD (w * 5 + (0 + 1)) 0
    · by_cases c2 : sg (W - p) (0 + 1 + 1) (tx (p + (0 + 1 + 1))) = chL.getD (w * 5 + (0 + 1 + 1)) 0
      · by_cases c3 : sg (W - p) (0 + 1 + 1 + 1) (tx (p + (0 + 1 + 1 + 1))) = chL.getD (w * 5 + (0 + 1 + 1 + 1)) 0
        · by_cases c4 : sg (W - p) (0 + 1 + 1 + 1 + 1) (tx (p + (0 + 1 + 1 + 1 + 1))) = chL.getD (w * 5 + (0 + 1 + 1 + 1 + 1)) 0
          · rw [if_pos c0, if_pos c1, if_pos c2, if_pos c3, if_pos c4]
            exact ⟨fun _ => ⟨c0, c1, c2, c3, c4⟩, fun _ => rfl⟩
          · rw [if_neg c4]
            exact ⟨fun h => absurd h (by repeat' split
                                         all_goals omega), fun h => absurd h.2.2.2.2 c4⟩
        · rw [if_neg c3]
          exact ⟨fun h => absurd h (by repeat' split
                                       all_goals omega), fun h => absurd h.2.2.2.1 c3⟩
      · rw [if_neg c2]
        exact ⟨fun h => absurd h (by repeat' split
                                     all_goals omega), fun h => absurd h.2.2.1 c2⟩
    · rw [if_neg c1]
      exact ⟨fun h => absurd h (by repeat' split
                                   all_goals omega), fun h => absurd h.2.1 c1⟩
  · rw [if_neg c0]
    exact ⟨fun h => absurd h (by repeat' split
                                 all_goals omega), fun h => absurd h.1 c0⟩
theorem c_scanWord (hn : n ≤ 300) (ht : ∀ i, i < n → M0 21 i = nI (tx i) ∧ tx i < 256) (h2 : M0 20 2 = nI n) (hA : A ≠ 21) (hb : b0 ≠ 21) {p : Nat} (hp : p < n) :
    f_X6_scanWord (csM M0 A b0 C (nI p) (nI p) k u o m l) = some (csM M0 A b0 C (nI p) (nI (we tx n p)) (nI (wkd (wd tx n p))) u o m l) := by
  have s1 : lpf (fun q : px_M => f_X6_scanWord_0 q) (csM M0 A b0 C (nI p) (nI p) k u o m l) = some (csM M0 A b0 C (nI p) (nI (we tx n p)) k u o m l) := by
    refine lpf_skp (body := fun q : px_M => f_X6_scanWord_0 q) (isSm tx n) n (fun j => csM M0 A b0 C (nI p) (nI j) k u o m l) (fun j => csM M0 A b0 C (nI p) (nI j) k u o m l) (fun j h => (isSm_iff.mp h).1) (fun j h => ?_) (fun j hj h => ?_) 300 p (by omega) (we_e hn p)
    · obtain ⟨j1, j2, j3⟩ := isSm_iff.mp h
      show f_X6_scanWord_0 _ = _
      unfold f_X6_scanWord_0
      simp only [cs2, cs4, h2, if_neg (nI_ge j1 (show n < 2 ^ 31 by omega)), nm_u, ok_t (ix_k (show j < 300 by omega) (by decide)), nI_clamp (show j < 2 ^ 31 by omega), cs_o (show (21 : Nat) ≠ 20 by decide) hb.symm hA.symm, (ht j j1).1]
      rw [if_neg (show ¬ nI (tx j) < 97 from nI_nlt (b := 97) j2 (by omega)), if_neg (show ¬ 122 < nI (tx j) from nI_nlt (a := 122) j3 (by decide)), csu4, nI_1]
    · show f_X6_scanWord_0 _ = _
      unfold f_X6_scanWord_0
      by_cases e : n ≤ j
      · simp only [cs2, cs4, h2, if_pos (nI_le e (show j < 2 ^ 31 by omega))]
      · have j1 : j < n := by omega
        have hq : ¬ (97 ≤ tx j ∧ tx j ≤ 122) := fun z => by rw [isSm_iff.mpr ⟨j1, z⟩] at h; exact absurd h (by decide)
        have hl := (ht j j1).2
        simp only [cs2, cs4, h2, if_neg (nI_ge j1 (show n < 2 ^ 31 by omega)), nm_u, ok_t (ix_k (show j < 300 by omega) (by decide)), nI_clamp (show j < 2 ^ 31 by omega), cs_o (show (21 : Nat) ≠ 20 by decide) hb.symm hA.symm, (ht j j1).1]
        by_cases e2 : tx j < 97
        · rw [if_pos (show nI (tx j) < 97 from nI_lt (b := 97) e2 (by decide))]
        · rw [if_neg (show ¬ nI (tx j) < 97 from nI_nlt (b := 97) (by omega) (by omega)), if_pos (show 122 < nI (tx j) from nI_lt (a := 122) (by omega) (by omega))]
  unfold f_X6_scanWord
  rw [s1, bd1_e, nm_u, csu5]
  have hW := we_ge (tx := tx) (n := n) p
  have hW2 := we_le (tx := tx) (n := n) (p := p) (by omega)
  have s2 : lpf (fun q : Int32 × px_M => f_X6_scanWord_61 q.2 q.1) (0, csM M0 A b0 C (nI p) (nI (we tx n p)) 316 u o m l) = some (csM M0 A b0 C (nI p) (nI (we tx n p)) (nI (wkd (wd tx n p))) u o m l) := by
    by_cases hl : we tx n p - p ≤ 5
    · have K := lpf_for (body := fun q : Int32 × px_M => f_X6_scanWord_61 q.2 q.1) (fun w (k : Nat) => (nI w, csM M0 A b0 C (nI p) (nI (we tx n p)) (nI k) u o m l)) (fun i k => if wd tx n p = Wt.getD i 0 then 300 + i else k) (fun _ _ => True) (fun k => csM M0 A b0 C (nI p) (nI (we tx n p)) (nI k) u o m l) 16
        (fun w k hw _ => by
          refine ⟨?_, trivial⟩
          obtain ⟨s, g1, g2, g3⟩ := c_word_in (C := C) (k := nI k) (u := u) (o := o) (m := m) (l := l) hn ht hA hb hp hw hl (nI w) rfl
          show f_X6_scanWord_61 (csM M0 A b0 C (nI p) (nI (we tx n p)) (nI k) u o m l) (nI w) = _
          unfold f_X6_scanWord_61 f_X6_scanWord_163
          rw [if_neg (show ¬ 16 ≤ nI w from nI_ge (b := 16) hw (by decide)), cs3, cs4, pk_sub hW, if_neg (show ¬ 5 < nI (we tx n p - p) from nI_nlt (a := 5) hl (by decide)), g1, bd1_e, ifi (show nI s = 5 ↔ wd tx n p = Wt.getD w 0 from (nI_eq (b := 5) (by omega) (by decide)).trans g3), nI_1, nm_u, nm_u, csu5]
          by_cases e : wd tx n p = Wt.getD w 0
          · rw [if_pos e, if_pos e, show (300 : Int32) = nI 300 from rfl, nI_add]
          · rw [if_neg e, if_neg e])
        (fun k _ => by
          show f_X6_scanWord_61 _ (nI 16) = _
          unfold f_X6_scanWord_61
          rw [if_pos (by decide)]) 16 0 316 rfl trivial
      exact K.1
    · refine lpf_end (body := fun q : Int32 × px_M => f_X6_scanWord_61 q.2 q.1) ?_
      show f_X6_scanWord_61 (csM M0 A b0 C (nI p) (nI (we tx n p)) 316 u o m l) 0 = _
      unfold f_X6_scanWord_61
      have hw : wd tx n p = 99999999 := if_neg hl
      rw [if_neg (by decide), cs3, cs4, pk_sub hW, if_pos (show 5 < nI (we tx n p - p) from nI_lt (a := 5) (by omega) (by omega)), hw, (wkd_no (show ¬ 99999999 ∈ Wt by decide)).1]
      rfl
  rw [s2, bd1_e]
theorem c_scanNumber (hn : n ≤ 300) (ht : ∀ i, i < n → M0 21 i = nI (tx i) ∧ tx i < 256) (h2 : M0 20 2 = nI n) (hA : A ≠ 21) (hb : b0 ≠ 21) {p : Nat} (hp : p < n) :
    f_X6_scanNumber (csM M0 A b0 C (nI p) (nI p) k u o m l) = some (csM M0 A b0 C (nI p) (nI (de tx n p)) 317 (nI (cnv tx n p)) o m l) := by
  have hW := de_ge (tx := tx) (n := n) p
  have hW2 := de_le (tx := tx) (n := n) (p := p) (by omega)
  have K := lpf_for (σ := Unit) (body := fun q : px_M => f_X6_scanNumber_12 q) (fun j _ => csM M0 A b0 C (nI p) (nI (p + j)) 317 (nI (cnl tx p j)) o m l) (fun _ s => s) (fun _ _ => True) (fun _ => csM M0 A b0 C (nI p) (nI (de tx n p)) 317 (nI (cnv tx n p)) o m l) (de tx n p - p)
    (fun j _ hj _ => by
      refine ⟨?_, trivial⟩
      obtain ⟨j1, j2, j3⟩ := isDg_iff.mp (skp_mid (isDg tx n) 300 p (p + j) (by omega) (by unfold de at hj; omega))
      have hc := (nvl_lt (tx := tx) (n := n) (fun i hi => (ht i hi).2) (p := p) j (by omega)).2.2
      show f_X6_scanNumber_12 _ = _
      unfold f_X6_scanNumber_12 f_X6_scanNumber_85
      simp only [cs2, cs4, cs6, h2, if_neg (nI_ge j1 (show n < 2 ^ 31 by omega)), nm_u, ok_t (ix_k (show p + j < 300 by omega) (by decide)), nI_clamp (show p + j < 2 ^ 31 by omega), cs_o (show (21 : Nat) ≠ 20 by decide) hb.symm hA.symm, (ht (p + j) j1).1]
      rw [if_neg (show ¬ nI (tx (p + j)) < 48 from nI_nlt (b := 48) j2 (by omega)), if_neg (show ¬ 57 < nI (tx (p + j)) from nI_nlt (a := 57) j3 (by decide)), ifi (ltL' (a := 9999) (b := cnl tx p j) 9999 rfl (by decide) (by omega)), csu6, csu4, csu4, cs4, nI_1]
      show _ = some (Sum.inl (csM M0 A b0 C (nI p) (nI (p + (j + 1))) 317 (nI (cnl tx p (j + 1))) o m l))
      rw [show p + (j + 1) = p + j + 1 by omega, show cnl tx p (j + 1) = if cnl tx p j ≤ 9999 then 10 * cnl tx p j + (tx (p + j) - 48) else cnl tx p j from rfl]
      by_cases e : cnl tx p j ≤ 9999
      · rw [if_neg (by omega), if_pos e, show (10 : Int32) = nI 10 from rfl, pk_mul, nI_add, show (48 : Int32) = nI 48 from rfl, pk_sub (by omega), show 10 * cnl tx p j + tx (p + j) - 48 = 10 * cnl tx p j + (tx (p + j) - 48) by omega]
      · rw [if_pos (by omega), if_neg e])
    (fun _ _ => by
      show f_X6_scanNumber_12 _ = _
      unfold f_X6_scanNumber_12
      rw [show p + (de tx n p - p) = de tx n p by omega]
      show (if csM M0 A b0 C (nI p) (nI (de tx n p)) 317 (nI (cnv tx n p)) o m l 20 2 ≤ _ then _ else _) = _
      have h := de_e (tx := tx) hn p
      obtain ⟨D, eD⟩ : ∃ D, D = de tx n p := ⟨_, rfl⟩
      have hcn : cnv tx n p = cnl tx p (D - p) := by unfold cnv; rw [eD]
      rw [← eD] at h hW hW2 ⊢
      rw [hcn]
      by_cases e : n ≤ D
      · simp only [cs2, cs4, h2, if_pos (nI_le e (show D < 2 ^ 31 by omega))]
      · have j1 : D < n := by omega
        have hq : ¬ (48 ≤ tx D ∧ tx D ≤ 57) := fun z => by rw [isDg_iff.mpr ⟨j1, z⟩] at h; exact absurd h (by decide)
        have hl := (ht D j1).2
        simp only [cs2, cs4, h2, if_neg (nI_ge j1 (show n < 2 ^ 31 by omega)), nm_u, ok_t (ix_k (show D < 300 by omega) (by decide)), nI_clamp (show D < 2 ^ 31 by omega), cs_o (show (21 : Nat) ≠ 20 by decide) hb.symm hA.symm, (ht D j1).1]
        by_cases e2 : tx D < 48
        · rw [if_pos (show nI (tx D) < 48 from nI_lt (b := 48) e2 (by decide))]
        · rw [if_neg (show ¬ nI (tx D) < 48 from nI_nlt (b := 48) (by omega) (by omega)), if_pos (show 57 < nI (tx D) from nI_lt (a := 57) (by omega) (by omega))]) (de tx n p - p) 0 () (by omega) trivial
  unfold f_X6_scanNumber
  rw [nm_u, csu5, nm_u, csu6, show (0 : Int32) = nI (cnl tx p 0) from rfl]
  have K1 := K.1
  rw [Nat.add_zero] at K1
  rw [K1, bd1_e]
theorem c_scan (hn : n ≤ 300) (ht : ∀ i, i < n → M0 21 i = nI (tx i) ∧ tx i < 256) (h2 : M0 20 2 = nI n) (hA : A ≠ 21) (hb : b0 ≠ 21) {q : Nat} (hq : q ≤ n) :
    f_X6_scan (csM M0 A b0 C a (nI q) k u o m l) = some (csM M0 A b0 C (nI (bl tx n q)) (nI (nx tx n (bl tx n q))) (nI (kd tx n (bl tx n q))) (if kd tx n (bl tx n q) = 317 then nI (cnv tx n (bl tx n q)) else u) o m l) := by
  have s1 : lpf (fun z : px_M => f_X6_scan_8 z) (csM M0 A b0 C (nI q) (nI q) k u o m l) = some (csM M0 A b0 C (nI (bl tx n q)) (nI q) k u o m l) := by
    refine lpf_skp (body := fun z : px_M => f_X6_scan_8 z) (isBl tx n) n (fun j => csM M0 A b0 C (nI j) (nI q) k u o m l) (fun j => csM M0 A b0 C (nI j) (nI q) k u o m l) (fun j h => (isBl_iff.mp h).1) (fun j h => ?_) (fun j hj h => ?_) 300 q (by omega) (bl_e hn q)
    · obtain ⟨j1, j2⟩ := isBl_iff.mp h
      show f_X6_scan_8 _ = _
      unfold f_X6_scan_8
      simp only [cs2, cs3, h2, if_neg (nI_ge j1 (show n < 2 ^ 31 by omega)), nm_u, ok_t (ix_k (show j < 300 by omega) (by decide)), nI_clamp (show j < 2 ^ 31 by omega), cs_o (show (21 : Nat) ≠ 20 by decide) hb.symm hA.symm, (ht j j1).1]
      rw [if_pos (show nI (tx j) = 32 by rw [j2]; rfl), csu3, nI_1]
    · show f_X6_scan_8 _ = _
      unfold f_X6_scan_8
      by_cases e : n ≤ j
      · simp only [cs2, cs3, h2, if_pos (nI_le e (show j < 2 ^ 31 by omega))]
      · have j1 : j < n := by omega
        have hq : ¬ tx j = 32 := fun z => by rw [isBl_iff.mpr ⟨j1, z⟩] at h; exact absurd h (by decide)
        have hl := (ht j j1).2
        simp only [cs2, cs3, h2, if_neg (nI_ge j1 (show n < 2 ^ 31 by omega)), nm_u, ok_t (ix_k (show j < 300 by omega) (by decide)), nI_clamp (show j < 2 ^ 31 by omega), cs_o (show (21 : Nat) ≠ 20 by decide) hb.symm hA.symm, (ht j j1).1]
        rw [if_neg (show ¬ nI (tx j) = 32 from nI_eq' (b := 32) (by omega) (by decide) hq)]
  have hp := bl_le (tx := tx) hq
  obtain ⟨p, ep⟩ : ∃ p, p = bl tx n q := ⟨_, rfl⟩
  rw [← ep] at hp s1 ⊢
  unfold f_X6_scan f_X6_scan_110 f_X6_scan_145 f_X6_scan_168
  rw [nm_u, cs4, nm_u, csu3, s1, bd1_e, nm_u, cs3, nm_u, csu4, cs3, cs2, h2, ifi (nI_ltI (a := p) (b := n) (by omega) (by omega))]
  unfold kd nx
  by_cases e : n ≤ p
  · rw [if_neg (show ¬ p < n by omega), nm_u, csu5, if_pos e, if_pos e, if_neg (by decide)]
    rfl
  · have j1 : p < n := by omega
    have hl := (ht p j1).2
    rw [if_pos j1, if_neg e, if_neg e]
    simp only [cs3, nm_u, ok_t (ix_k (show p < 300 by omega) (by decide)), nI_clamp (show p < 2 ^ 31 by omega), cs_o (show (21 : Nat) ≠ 20 by decide) hb.symm hA.symm, (ht p j1).1]
    by_cases w : 97 ≤ tx p ∧ tx p ≤ 122
    · have hr := wkd_r (wd tx n p)
      rw [if_neg (show ¬ nI (tx p) < 97 from nI_nlt (b := 97) w.1 (by omega)), if_neg (show ¬ 122 < nI (tx p) from nI_nlt (a := 122) w.2 (by decide)), c_scanWord hn ht h2 hA hb j1, bd1_e, if_pos w, if_pos w, if_neg (by omega)]
    · rw [if_neg w, if_neg w]
      have num : ∀ (Z : Option px_M), Z = (if nI (tx p) < 48 then some (csM M0 A b0 C (nI p) (nI p + 1) (nI (tx p)) u o m l) else if 57 < nI (tx p) then some (csM M0 A b0 C (nI p) (nI p + 1) (nI (tx p)) u o m l) else some (csM M0 A b0 C (nI p) (nI (de tx n p)) 317 (nI (cnv tx n p)) o m l)) → Z = some (csM M0 A b0 C (nI p) (nI (if 48 ≤ tx p ∧ tx p ≤ 57 then de tx n p else p + 1)) (nI (if 48 ≤ tx p ∧ tx p ≤ 57 then 317 else tx p)) (if (if 48 ≤ tx p ∧ tx p ≤ 57 then 317 else tx p) = 317 then nI (cnv tx n p) else u) o m l) := by
        intro Z hZ
        rw [hZ, nI_1]
        by_cases d : 48 ≤ tx p ∧ tx p ≤ 57
        · rw [if_neg (show ¬ nI (tx p) < 48 from nI_nlt (b := 48) d.1 (by omega)), if_neg (show ¬ 57 < nI (tx p) from nI_nlt (a := 57) d.2 (by decide)), if_pos d, if_pos d, if_pos rfl]
          rfl
        · rw [if_neg d, if_neg d, if_neg (show ¬ tx p = 317 by omega)]
          by_cases d2 : tx p < 48
          · rw [if_pos (show nI (tx p) < 48 from nI_lt (b := 48) d2 (by decide))]
          · rw [if_neg (show ¬ nI (tx p) < 48 from nI_nlt (b := 48) (by omega) (by omega)), if_pos (show 57 < nI (tx p) from nI_lt (a := 57) (by omega) (by omega))]
      simp only [c_scanNumber hn ht h2 hA hb j1, bd1_e, csu5, csu4, cs3]
      by_cases d2 : tx p < 97
      · rw [if_pos (show nI (tx p) < 97 from nI_lt (b := 97) d2 (by decide))]
        exact num _ rfl
      · rw [if_neg (show ¬ nI (tx p) < 97 from nI_nlt (b := 97) (by omega) (by omega)), if_pos (show 122 < nI (tx p) from nI_lt (a := 122) (by omega) (by omega))]
        exact num _ rfl
end SCAN
