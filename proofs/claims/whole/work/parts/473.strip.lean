/-! strip, layer, lies -/
def fstC (n u : Nat) : Nat → List Nat → List Nat → List Nat → Bool
  | 0, _, _, _ => true
  | m + 1, l, se, so => (List.range n).any fun p => okPt n u l p && (match sdW n 0 l p se, sdW n 1 l p so with | some a, some b => fstC n u m (l ++ [p]) a b | _, _ => false)
theorem fstC_ne {n u : Nat} : ∀ (m : Nat) (l se so : List Nat), fstC n u m l se so = true → compC n u m l se so ≠ []
  | 0, l, se, so, _ => by unfold compC; simp
  | m + 1, l, se, so, h => by
    unfold fstC at h
    obtain ⟨p, hp, h2⟩ := List.any_eq_true.mp h
    rw [Bool.and_eq_true] at h2
    unfold compC
    intro q
    have h3 := List.flatMap_eq_nil_iff.mp q p hp
    rw [if_pos h2.1] at h3
    have h4 := h2.2
    cases c1 : sdW n 0 l p se with
    | none => rw [c1] at h4; cases h4
    | some a =>
      cases c2 : sdW n 1 l p so with
      | none => rw [c1, c2] at h4; cases h4
      | some b =>
        rw [c1, c2] at h3 h4
        exact fstC_ne m _ _ _ h4 h3
set_option maxRecDepth 100000 in
theorem all_lie0 : (List.range 9).all (fun n => decide (n < 2) || (List.range (2 ^ (n - 1))).all (fun u => fstC n u n [] [] [])) = true := by decide +kernel
/-- there is a pile for every strip -/
theorem all_lie {n u : Nat} (h1 : 2 ≤ n) (h2 : n ≤ 8) (hu : u < 2 ^ (n - 1)) : compC n u n [] [] [] ≠ [] := by
  have h := List.all_eq_true.mp all_lie0 n (List.mem_range.mpr (by omega))
  rw [Bool.or_eq_true] at h
  rcases h with h | h
  · have := of_decide_eq_true h
    omega
  · exact fstC_ne n [] [] [] (List.all_eq_true.mp h u (List.mem_range.mpr hu))
/-- the strip and its pile; n = 0: none was told -/
def FoldI (M : px_M) (n u o : Nat) (row : List Nat) : Prop :=
  (n = 0 ∨ 2 ≤ n ∧ n ≤ 8) ∧ (u < 2 ^ 7 ∧ o < 2 ^ (n - 1)) ∧ (M 1 0 = nI n ∧ M 73 1 = nI n ∧ M 1 1 = nI u ∧ M 73 2 = nI u ∧ M 1 2 = nI o) ∧
  (n = 0 → M 73 3 = 0) ∧ (n ≠ 0 → (∃ k, 0 < k ∧ k < 2 ^ 31 ∧ M 73 3 = nI k) ∧ Full n row ∧ PileAt M row ∧ ∀ j, j < n → M 74 j = nI (row.getD j 0)) ∧
  ∀ i, i < 8 → M 78 i = b2 (o.testBit i)
def Ifold (M : px_M) : Prop := ∃ n u o row, FoldI M n u o row
theorem FoldI.fr {sh : px_Sh} {M M' : px_M} {n u o : Nat} {row : List Nat} (h : FoldI M n u o row) (hM : sm_ sh 1 M M') : FoldI M' n u o row := by
  obtain ⟨h1, h2, h3, h4, h5, h6⟩ := h
  refine ⟨h1, h2, ?_, fun q => ?_, fun q => ?_, fun i hi => ?_⟩
  · rw [hM 1 0 rfl, hM 1 1 rfl, hM 1 2 rfl, hM 73 1 rfl, hM 73 2 rfl]; exact h3
  · rw [hM 73 3 rfl]; exact h4 q
  · obtain ⟨k1, k2, k3, k4⟩ := h5 q
    refine ⟨by rw [hM 73 3 rfl]; exact k1, k2, ⟨fun j hj => ?_, fun j hj => ?_⟩, fun j hj => ?_⟩
    · rw [hM 2 j rfl]; exact k3.1 j hj
    · rw [hM 3 _ rfl]; exact k3.2 j hj
    · rw [hM 74 j rfl]; exact k4 j hj
  · rw [hM 78 i rfl]; exact h6 i hi
section STRIP
variable {sh : px_Sh} {M : px_M} {n u o : Nat} {row : List Nat}
theorem p_layer (hI : FoldI M n u o row) (p1 : Int32) : ∃ r, f_X11_layer M p1 = some r ∧ f_X12_layer M p1 = some (r, px_u M 73 0 0) := by
  obtain ⟨h1, h2, h3, h4, h5, h6⟩ := hI
  have e1 : (px_u M 73 0 0) 73 1 = nI n := h3.2.1
  unfold f_X11_layer f_X12_layer f_X11_layer_30 f_X12_layer_35 f_X12_layer_36
  rw [nm_u, h3.1, e1]
  rcases rng p1 (k := n) (by omega) with ⟨k, hk, rfl, w1, w2⟩ | ⟨-, w1, w2⟩
  · obtain ⟨⟨c, c1, c2, c3⟩, -, k3, k4⟩ := h5 (by omega)
    have k2 := (h5 (by omega)).2.1
    rw [w1, bd1_e, if_neg (by decide), if_neg (show ¬ (px_u M 73 0 0) 73 3 ≤ 0 by rw [show (px_u M 73 0 0) 73 3 = M 73 3 from rfl, c3]; exact nI_nle c1 c2), w2, bd1_e, if_neg (by decide), ok_t (ix_k (show k < 8 by omega) (by decide)), ok_t (ix_k (show k < 8 by omega) (by decide)), nI_clamp (by omega)]
    refine ⟨_, rfl, ?_⟩
    rw [show (px_u M 73 0 0) 74 k = M 74 k from rfl, k4 k hk, k3.1 k (by rw [k2.2.1]; exact hk)]
  · rw [w1, bd1_e, if_pos rfl, w2, bd1_e, if_pos rfl]
    exact ⟨_, rfl, by split <;> rfl⟩
theorem strip_in {p1 p2 : Int32} : (∃ n u, 2 ≤ n ∧ n ≤ 8 ∧ u < 2 ^ (n - 1) ∧ p1 = nI n ∧ p2 = nI u) ∨ ((∀ M', f_X11_strip M' p1 p2 = some (.inr 0)) ∧ ∀ M', f_X12_strip M' p1 p2 = some (0, px_t M' 1)) := by
  have hb : ∀ M', f_X12_strip_43 (px_u M' 73 0 0) p1 p2 = some (0, px_t M' 1) := by
    intro M'
    unfold f_X12_strip_43 f_X12_strip_48
    rw [e_bt (by decide), bd1_e]; rfl
  by_cases c1 : 2 ≤ p1 ∧ p1 ≤ 8
  · obtain ⟨n, hn, rfl⟩ := nI_of2 (M := 8) (n := 8) (by decide) (Int32.not_lt.mpr (Int32.le_trans (by decide) c1.1)) c1.2
    have hn2 : 2 ≤ n := (nI_leI (a := 2) (by decide) (by omega)).mp c1.1
    have hsub : nI n - 1 = nI (n - 1) := pk_sub (b := 1) (by omega)
    have hpw : 2 ^ (n - 1) ≤ 2 ^ 7 := Nat.pow_le_pow_right (by decide) (by omega)
    by_cases c2 : p2 < 0
    · right
      constructor
      · intro M'
        unfold f_X11_strip f_X11_strip_22 f_X11_strip_23
        rw [e_within, bI_t c1, bd1_e, if_neg (by decide), hsub, if_neg]
        · rw [if_pos rfl]
        · intro q
          have h9 : (p2.toUInt32 >>> ((nI (n - 1)).toUInt32 &&& Int32.toUInt32 31)).toInt32.toBitVec.toNat = p2.toBitVec.toNat / 2 ^ (n - 1) := pk_ushr p2 (nI (n - 1)) (n - 1) (by
            obtain rfl | rfl | rfl | rfl | rfl | rfl | rfl : n = 2 ∨ n = 3 ∨ n = 4 ∨ n = 5 ∨ n = 6 ∨ n = 7 ∨ n = 8 := by omega
            all_goals decide)
          rw [q] at h9
          have h8 : 2 ^ 31 ≤ p2.toBitVec.toNat := by
            have a1 := Int32.lt_iff_toInt_lt.mp c2
            have a2 : (0 : Int32).toInt = 0 := by decide
            rw [← Int32.toInt_toBitVec, BitVec.toInt_eq_toNat_cond] at a1
            rw [a2] at a1
            split at a1 <;> omega
          have h7 : (0 : Int32).toBitVec.toNat = 0 := by decide
          rw [h7] at h9
          have h6 := (Nat.div_eq_zero_iff).mp h9.symm
          rcases h6 with x | x
          · exact absurd x (Nat.ne_of_gt (Nat.two_pow_pos _))
          · omega
      · intro M'
        unfold f_X12_strip
        rw [nm_u, e_in, bI_t c1, bd1_e, if_neg (by decide), if_pos c2, hb]
    · obtain ⟨v, hv, rfl⟩ := nI_of c2
      have hus : ((nI v).toUInt32 >>> ((nI (n - 1)).toUInt32 &&& Int32.toUInt32 31)).toInt32 = nI (v / 2 ^ (n - 1)) := pk_ushrN (by omega) (nI (n - 1)) (n - 1) (by
        obtain rfl | rfl | rfl | rfl | rfl | rfl | rfl : n = 2 ∨ n = 3 ∨ n = 4 ∨ n = 5 ∨ n = 6 ∨ n = 7 ∨ n = 8 := by omega
        all_goals decide)
      by_cases c3 : v < 2 ^ (n - 1)
      · exact Or.inl ⟨n, v, hn2, hn, c3, rfl, rfl⟩
      · right
        constructor
        · intro M'
          unfold f_X11_strip f_X11_strip_22 f_X11_strip_23
          rw [e_within, bI_t c1, bd1_e, if_neg (by decide), hsub, hus, if_neg]
          · rw [if_pos rfl]
          · rw [show (0 : Int32) = nI 0 from rfl, nI_eq (Nat.lt_of_le_of_lt (Nat.div_le_self _ _) hv) (by decide)]
            intro q
            rcases (Nat.div_eq_zero_iff).mp q with x | x
            · exact absurd x (Nat.ne_of_gt (Nat.two_pow_pos _))
            · exact c3 x
        · intro M'
          unfold f_X12_strip f_X12_strip_39
          rw [nm_u, e_in, bI_t c1, bd1_e, if_neg (by decide), if_neg c2, bd1_e, if_neg (by decide), hsub, shl1 (n - 1) (by omega), if_neg (nI_nlt (by omega) hv), hb]
  · right
    constructor
    · intro M'
      unfold f_X11_strip f_X11_strip_22 f_X11_strip_23
      rw [e_within, bI_f c1, bd1_e, if_pos rfl, if_pos rfl]
    · intro M'
      unfold f_X12_strip
      rw [nm_u, e_in, bI_f c1, bd1_e, if_pos rfl, hb]
theorem p_strip (p1 p2 : Int32) :
    (∃ r M1 M2, f_X11_strip M p1 p2 = some (.inl (r, M1)) ∧ f_X12_strip M1 p1 p2 = some (r, M2) ∧ M2 73 0 = 0 ∧ kp sh [1] M M2 ∧ Ifold M2) ∨ (f_X11_strip M p1 p2 = some (.inr 0) ∧ f_X12_strip M p1 p2 = some (0, px_t M 1)) := by
  rcases strip_in (p1 := p1) (p2 := p2) with ⟨n, u, n2, n8, hu, rfl, rfl⟩ | ⟨q1, q2⟩
  · left
    have hpw : 2 ^ (n - 1) ≤ 2 ^ 7 := Nat.pow_le_pow_right (by decide) (by omega)
    have hn8p : n ^ n ≤ 8 ^ 8 := Nat.le_trans (Nat.pow_le_pow_left n8 n) (Nat.pow_le_pow_right (by decide) n8)
    have hlt0 : 0 + n ^ n < 2 ^ 31 := by
      have h88 : (8 : Nat) ^ 8 = 16777216 := by decide
      omega
    have c1 : (2 : Int32) ≤ nI n ∧ nI n ≤ 8 := ⟨nI_le (a := 2) n2 (by omega), nI_le (b := 8) n8 (by decide)⟩
    have hsub : nI n - 1 = nI (n - 1) := pk_sub (b := 1) (by omega)
    have hus : ((nI u).toUInt32 >>> ((nI (n - 1)).toUInt32 &&& Int32.toUInt32 31)).toInt32 = nI (u / 2 ^ (n - 1)) := pk_ushrN (by omega) (nI (n - 1)) (n - 1) (by
      obtain rfl | rfl | rfl | rfl | rfl | rfl | rfl : n = 2 ∨ n = 3 ∨ n = 4 ∨ n = 5 ∨ n = 6 ∨ n = 7 ∨ n = 8 := by omega
      all_goals decide)
    obtain ⟨Ma, hMa⟩ : ∃ Ma, Ma = px_u (px_u (px_u (px_u M 1 0 (nI n)) 1 1 (nI u)) 1 2 0) 1 3 0 := ⟨_, rfl⟩
    obtain ⟨M1, r1, y1, y2, y3, y4, y5⟩ := pileF (u := u) n8 (by omega) (by omega) n 10 [] [] [] Ma 0 (by omega) (by simp) (by simp) (by simp) (SI_nil n 0) (SI_nil n 1) (by rw [hMa]; simp (disch := omega) only [pu_n, px_u_in]) (by rw [hMa]; simp (disch := omega) only [pu_n, px_u_in]) (by rw [hMa, px_u_in]; rfl) hlt0 (fun j hj => absurd hj (by simp))
    have hCR := comp_eq (n := n) (u := u) n [] [] [] (by simp) (by simp) (by simp) (SI_nil n 0) (SI_nil n 1) (fun a p b e => by simp at e)
    have hne := all_lie n2 n8 hu
    obtain ⟨row, t, hrt⟩ : ∃ row t, compC n u n [] [] [] = row :: t := by
      cases h : compC n u n [] [] [] with
      | nil => exact absurd h hne
      | cons a b => exact ⟨a, b, rfl⟩
    have hFull : Full n row := by
      have : row ∈ (compR n n []).filter (stB n u) := by rw [← hCR, hrt]; exact List.mem_cons_self
      exact (compR_full (n := n) n [] (by simp) (by simp) (by simp) row (List.mem_filter.mp this).1).1
    -- the reference
    obtain ⟨Mb, hMb⟩ : ∃ Mb, Mb = px_u (px_u (px_u (px_u M1 73 0 0) 73 1 (nI n)) 73 2 (nI u)) 73 3 0 := ⟨_, rfl⟩
    have K := lpf_for (body := fun a : Int32 × px_M => f_X12_strip_74 a.2 a.1) (fun i (M' : px_M) => (nI i, M')) (fun i M' => px_u M' 78 i 0)
      (fun k M' => (∀ a j, a ≠ 78 → M' a j = Mb a j) ∧ ∀ j, j < k → M' 78 j = 0) (fun M' => M') 8
      (fun i M' hi hP => by
        obtain ⟨p1, p2⟩ := hP
        refine ⟨?_, fun a j q1 => ?_, fun j hj => ?_⟩
        · show f_X12_strip_74 M' (nI i) = _
          unfold f_X12_strip_74
          rw [if_neg (show ¬ 8 ≤ nI i from nI_ge (b := 8) hi (by decide)), ok_t (ix_k hi (by decide)), nI_clamp (by omega), nm_u, nI_1]
        · rw [pu_n (by omega)]; exact p1 a j q1
        · by_cases e : j = i
          · subst e; exact px_u_in _ _ _ _
          · rw [pu_n (by omega)]; exact p2 j (by omega))
      (fun M' hP => by
        show f_X12_strip_74 M' (nI 8) = _
        unfold f_X12_strip_74
        rw [if_pos (by decide)]) 8 0 Mb (by omega) ⟨fun _ _ _ => rfl, fun j hj => absurd hj (by omega)⟩
    obtain ⟨k1, k2, k3⟩ := K
    obtain ⟨Mc, hMc⟩ : ∃ Mc, Mc = fld (fun i (M' : px_M) => px_u M' 78 i 0) 0 8 Mb := ⟨_, rfl⟩
    rw [← hMc] at k1 k2 k3
    have c73 : ∀ j, j ≠ 0 → j ≠ 1 → j ≠ 2 → j ≠ 3 → Mc 73 j = M1 73 j := fun j a1 a2 a3 a4 => by
      rw [k2 73 j (by decide), hMb]; simp (disch := omega) only [pu_n]
    have d1 : Mc 73 1 = nI n := by rw [k2 73 1 (by decide), hMb]; simp (disch := omega) only [pu_n, px_u_in]
    have d2 : Mc 73 2 = nI u := by rw [k2 73 2 (by decide), hMb]; simp (disch := omega) only [pu_n, px_u_in]
    have d3 : Mc 73 3 = nI 0 := by rw [k2 73 3 (by decide), hMb, px_u_in]; rfl
    have d0 : Mc 73 0 = 0 := by rw [k2 73 0 (by decide), hMb]; simp (disch := omega) only [pu_n, px_u_in]
    obtain ⟨M2, s1, z1, z2, z3, z4, z5⟩ := goTh (u := u) n8 (by omega) (by omega) n 10 [] Mc 0 (by omega) (by simp) (by simp) (by simp) d1 d2 d3 hlt0 (fun j hj => absurd hj (by simp))
    rw [← hCR] at z1 z4 z5
    have hlen : (compC n u n [] [] []).length ≤ n ^ n := compC_len n [] [] []
    have h88 : (8 : Nat) ^ 8 = 16777216 := by decide
    have hf2 : ∀ a j, a ≠ 74 → a ≠ 75 → a ≠ 76 → a ≠ 78 → a ≠ 73 → M2 a j = M1 a j := fun a j a1 a2 a3 a4 a5 => by
      rw [z2 a j a1 a2 a3 (by omega), k2 a j a4, hMb]; simp (disch := omega) only [pu_n]
    have hf1 : ∀ a j, a ≠ 1 → a ≠ 2 → a ≠ 3 → a ≠ 4 → M1 a j = M a j := fun a j a1 a2 a3 a4 => by
      rw [y2 a j a2 a3 a4 (by omega), hMa]; simp (disch := omega) only [pu_n]
    refine ⟨nI (0 + (compC n u n [] [] []).length), M1, M2, ?_, ?_, ?_, ?_, n, u, 0, row, Or.inr ⟨n2, n8⟩, ⟨by omega, Nat.two_pow_pos _⟩, ⟨?_, ?_, ?_, ?_, ?_⟩, fun q => absurd q (by omega), fun _ => ⟨⟨(compC n u n [] [] []).length, by rw [hrt]; simp, by omega, by rw [z1, Nat.zero_add]⟩, hFull, ⟨fun j hj => ?_, fun j hj => ?_⟩, fun j hj => ?_⟩, fun i hi => ?_⟩
    · unfold f_X11_strip f_X11_strip_23 f_X11_strip_26 f_X2_tell f_X2_pileFrom
      rw [e_within, bI_t c1, bd1_e, if_neg (by decide), hsub, hus, Nat.div_eq_of_lt hu, if_pos (show nI 0 = 0 from rfl), if_neg (show ¬ (1 : Int32) = 0 by decide)]
      simp only [nm_u]
      rw [← hMa, show k_X2_pileFrom 10 Ma 0 0 0 0 = _ from r1, bd1_e, bd1_e, bd1_e, y1]
    · unfold f_X12_strip f_X12_strip_39 f_X12_strip_48 f_X12_goThrough
      rw [nm_u, e_in, bI_t c1, bd1_e, if_neg (by decide), if_neg (nI_pos (by omega)), bd1_e, if_neg (by decide), hsub, shl1 (n - 1) (by omega), if_pos (nI_lt hu (by omega)), e_bf, bd1_e, if_pos rfl]
      simp only [nm_u]
      rw [← hMb, show lpf (fun a : Int32 × px_M => f_X12_strip_74 a.2 a.1) (0, Mb) = _ from k1, bd1_e, show k_X12_goThrough 10 Mc 0 0 = _ from s1, bd1_e, z1]
    · rw [z2 73 0 (by decide) (by decide) (by decide) (by decide), d0]
    · intro a j hn
      by_cases e73 : a = 73
      · subst e73
        have x1 : j ≠ 0 := fun q => hn (by rw [q]; exact List.mem_cons_self)
        have x2 : j ≠ 1 := fun q => hn (by rw [q]; exact List.mem_cons_of_mem _ List.mem_cons_self)
        have x3 : j ≠ 2 := fun q => hn (by rw [q]; exact List.mem_cons_of_mem _ List.mem_cons_self)
        have x4 : j ≠ 3 := fun q => hn (by rw [q]; exact List.mem_cons_of_mem _ List.mem_cons_self)
        rw [z2 73 j (by decide) (by decide) (by decide) (by omega), c73 j x1 x2 x3 x4, hf1 73 j (by decide) (by decide) (by decide) (by decide)]
      · have x1 : a ≠ 1 := fun q => hn (by rw [q]; exact List.mem_cons_of_mem _ List.mem_cons_self)
        have x2 : a ≠ 2 := fun q => hn (by rw [q]; exact List.mem_cons_of_mem _ List.mem_cons_self)
        have x3 : a ≠ 3 := fun q => hn (by rw [q]; exact List.mem_cons_of_mem _ List.mem_cons_self)
        have x4 : a ≠ 4 := fun q => hn (by rw [q]; exact List.mem_cons_self)
        have x5 : a ≠ 74 := fun q => hn (by rw [q]; exact List.mem_cons_of_mem _ List.mem_cons_self)
        have x6 : a ≠ 75 := fun q => hn (by rw [q]; exact List.mem_cons_self)
        have x7 : a ≠ 76 := fun q => hn (by rw [q]; exact List.mem_cons_self)
        have x8 : a ≠ 78 := fun q => hn (by rw [q]; exact List.mem_cons_of_mem _ List.mem_cons_self)
        rw [hf2 a j x5 x6 x7 x8 e73, hf1 a j x1 x2 x3 x4]
    · rw [hf2 1 0 (by decide) (by decide) (by decide) (by decide) (by decide), y2 1 0 (by decide) (by decide) (by decide) (by decide), hMa]; simp (disch := omega) only [pu_n, px_u_in]
    · rw [z2 73 1 (by decide) (by decide) (by decide) (by decide), d1]
    · rw [hf2 1 1 (by decide) (by decide) (by decide) (by decide) (by decide), y2 1 1 (by decide) (by decide) (by decide) (by decide), hMa]; simp (disch := omega) only [pu_n, px_u_in]
    · rw [z2 73 2 (by decide) (by decide) (by decide) (by decide), d2]
    · rw [hf2 1 2 (by decide) (by decide) (by decide) (by decide) (by decide), y2 1 2 (by decide) (by decide) (by decide) (by decide), hMa]; simp (disch := omega) only [pu_n, px_u_in]; rfl
    · rw [hf2 2 j (by decide) (by decide) (by decide) (by decide) (by decide)]; exact (y4 rfl row t hrt).1 j hj
    · rw [hf2 3 _ (by decide) (by decide) (by decide) (by decide) (by decide)]; exact (y4 rfl row t hrt).2 j hj
    · exact z4 rfl row t hrt j (by rw [hFull.2.1]; exact hj)
    · rw [z2 78 i (by decide) (by decide) (by decide) (by omega), k3 i hi, Nat.zero_testBit]; rfl
  · exact Or.inr ⟨q1 M, q2 M⟩
end STRIP
