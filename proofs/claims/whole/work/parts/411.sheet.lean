/-! the best sheet: the class goes through the sets in the order of the Gray code, the reference in their own order -/
theorem cl0 : (0 : Int32).toNatClampNeg = 0 := rfl
theorem cl1 : (1 : Int32).toNatClampNeg = 1 := rfl
theorem cl2 : (2 : Int32).toNatClampNeg = 2 := rfl
theorem cl3 : (3 : Int32).toNatClampNeg = 3 := rfl
theorem cl4 : (4 : Int32).toNatClampNeg = 4 := rfl
/-- 0 ≤ j ≤ k - 1, as the class asks it -/
theorem in_of {j k : Nat} (h : j < k) (hk : k < 2 ^ 31) : (0 : Int32) ≤ nI j ∧ nI j ≤ nI k - 1 := by
  refine ⟨nI_pos' (by omega), ?_⟩
  show nI j ≤ nI k - nI 1
  rw [pk_sub (by omega)]
  exact nI_le (by omega) (by omega)
/-- a row of five holds the set s: itself, its gain, its cost, its turns -/
def rowT (M : px_M) (k s : Nat) (r : Nat → Int32) : Prop := r 0 = nI s ∧ r 1 = sm (M 64) s k ∧ r 2 = sm (M 65) s k ∧ r 3 = sm (fun j => M 64 j * M 62 j) s k ∧ r 4 = sm (fun j => M 64 j * M 63 j) s k
def okS (M : px_M) (k : Nat) (bu bo : Int32) (s : Nat) : Prop := sm (M 65) s k ≤ bu ∧ am (sm (fun j => M 64 j * M 62 j) s k) ≤ bo ∧ am (sm (fun j => M 64 j * M 63 j) s k) ≤ bo
abbrev bestC (M : px_M) (k : Nat) (bu bo : Int32) (b : Nat) : Prop := bestSet (fun s => sm (M 64) s k) (fun s => sm (M 65) s k) (okS M k bu bo) (2 ^ k) b
theorem sm_0 (f : Nat → Int32) : ∀ k, sm f 0 k = 0
  | 0 => rfl
  | k + 1 => by rw [sm, sm_0 f k]; simp
theorem rowT_0 (M : px_M) (k : Nat) {r : Nat → Int32} (h : ∀ t, t < 5 → r t = 0) : rowT M k 0 r := by
  refine ⟨?_, ?_, ?_, ?_, ?_⟩ <;> (first | rw [h 0 (by decide)] | rw [h 1 (by decide)] | rw [h 2 (by decide)] | rw [h 3 (by decide)] | rw [h 4 (by decide)]) <;> first | rfl | rw [sm_0]
theorem rowT_flip {M : px_M} {k s j : Nat} {r r2 : Nat → Int32} (hs : s < 4096) (hk : k ≤ 12) (hj : j < k) (h : rowT M k s r)
    (h0 : r2 0 = r 0 ^^^ (1 <<< (nI j &&& 31))) (h1 : r2 1 = r 1 + (if ((r 0 ^^^ (1 <<< (nI j &&& 31))) >>> (nI j &&& 31)) &&& 1 = 1 then 1 else -1) * M 64 j) (h2 : r2 2 = r 2 + (if ((r 0 ^^^ (1 <<< (nI j &&& 31))) >>> (nI j &&& 31)) &&& 1 = 1 then 1 else -1) * M 65 j)
    (h3 : r2 3 = r 3 + (if ((r 0 ^^^ (1 <<< (nI j &&& 31))) >>> (nI j &&& 31)) &&& 1 = 1 then 1 else -1) * M 64 j * M 62 j) (h4 : r2 4 = r 4 + (if ((r 0 ^^^ (1 <<< (nI j &&& 31))) >>> (nI j &&& 31)) &&& 1 = 1 then 1 else -1) * M 64 j * M 63 j) : rowT M k (s ^^^ 2 ^ j) r2 := by
  obtain ⟨e0, e1, e2, e3, e4⟩ := h
  have hp : 2 ^ j < 2 ^ 12 := Nat.pow_lt_pow_right (by decide) (by omega)
  have hx : s ^^^ 2 ^ j < 2 ^ 12 := Nat.xor_lt_two_pow (n := 12) hs hp
  have hb : ((nI (s ^^^ 2 ^ j) >>> (nI j &&& 31)) &&& 1 = 1) ↔ s.testBit j = false := by
    rw [bit_iff (by omega) (by omega), Nat.testBit_xor, Nat.testBit_two_pow_self]
    simp
  rw [e0, shl1 j (by omega), xorI] at h0 h1 h2 h3 h4
  simp only [hb] at h1 h2 h3 h4
  refine ⟨h0, ?_, ?_, ?_, ?_⟩
  · rw [h1, e1, sm_flip, if_pos hj]; cases s.testBit j <;> simp <;> grind
  · rw [h2, e2, sm_flip, if_pos hj]; cases s.testBit j <;> simp <;> grind
  · rw [h3, e3, sm_flip, if_pos hj]; cases s.testBit j <;> simp <;> grind
  · rw [h4, e4, sm_flip, if_pos hj]; cases s.testBit j <;> simp <;> grind
theorem rowT_M {M M2 : px_M} {k s : Nat} {r : Nat → Int32} (h : ∀ b, b ≠ 66 → b ≠ 67 → M2 b = M b) (q : rowT M k s r) : rowT M2 k s r := by
  unfold rowT
  rw [h 64 (by decide) (by decide), h 65 (by decide) (by decide), h 62 (by decide) (by decide), h 63 (by decide) (by decide)]
  exact q

set_option maxRecDepth 100000 in
theorem ntz_t : ∀ t, t < 12 → (if 0 < nI (2 ^ t - 1) then
    if nI (2 ^ t - 1) ≤ 65536 then
      f_J6_numberOfTrailingZeros_0f7a4_34 (nI (2 ^ t - 1)) 1
    else
      nm (((nI (2 ^ t - 1) : Int32).toUInt32 >>> ((16 : Int32).toUInt32 &&& Int32.toUInt32 31)).toInt32) fun v_33 =>
      f_J6_numberOfTrailingZeros_0f7a4_34 v_33 (1 + 16)
  else
    some (nI (2 ^ t - 1) &&& 32)) = some (nI t) := by decide +kernel
theorem e_ntz {i : Nat} (h0 : 0 < i) (h : i < 4096) : f_J6_numberOfTrailingZeros_0f7a4 (nI i) = some (nI (tz i)) := by
  obtain ⟨g1, g2, -, -⟩ := gr_step h0 h
  unfold f_J6_numberOfTrailingZeros_0f7a4
  rw [nm_u, g1]
  exact ntz_t (tz i) g2
theorem c_change {M : px_M} {k j : Nat} (hk : M 61 4 = nI k) (hk2 : k ≤ 12) (hj : j < k) : ∃ M', f_X0_change M (nI j) = some M' ∧ (∀ b, b ≠ 67 → M' b = M b) ∧ M' 67 0 = M 67 0 ^^^ (1 <<< (nI j &&& 31)) ∧ M' 67 1 = M 67 1 + (if ((M 67 0 ^^^ (1 <<< (nI j &&& 31))) >>> (nI j &&& 31)) &&& 1 = 1 then 1 else -1) * M 64 j ∧ M' 67 2 = M 67 2 + (if ((M 67 0 ^^^ (1 <<< (nI j &&& 31))) >>> (nI j &&& 31)) &&& 1 = 1 then 1 else -1) * M 65 j ∧ M' 67 3 = M 67 3 + (if ((M 67 0 ^^^ (1 <<< (nI j &&& 31))) >>> (nI j &&& 31)) &&& 1 = 1 then 1 else -1) * M 64 j * M 62 j ∧ M' 67 4 = M 67 4 + (if ((M 67 0 ^^^ (1 <<< (nI j &&& 31))) >>> (nI j &&& 31)) &&& 1 = 1 then 1 else -1) * M 64 j * M 63 j := by
  have hc : (nI j).toNatClampNeg = j := nI_clamp (by omega)
  have hi : ix (nI j) 12 = true := ix_ok (by omega) (by decide)
  have hs : ∀ (M0 : px_M) (z : Int32), f_X0_change_46 M0 (nI j) z = some (px_u (px_u (px_u (px_u M0 67 1 (M0 67 1 + z * M0 64 j)) 67 2 (M0 67 2 + z * M0 65 j)) 67 3 (M0 67 3 + z * M0 64 j * M0 62 j)) 67 4 (M0 67 4 + z * M0 64 j * M0 63 j)) := by
    intro M0 z
    unfold f_X0_change_46
    simp only [nm_u, hi, ok_y, hc, cl1, cl2, cl3, cl4]
    simp [px_u]
  unfold f_X0_change
  rw [e_within, bd1_e, bI_t (by rw [hk]; exact in_of hj (by omega)), if_neg (by decide)]
  simp only [nm_u, cl0, px_u_in]
  split
  next hz =>
    refine ⟨_, hs _ _, fun b hb => ?_, ?_, ?_, ?_, ?_, ?_⟩
    · simp only [px_u_ne _ _ _ hb]
    all_goals simp [px_u]
  next hz =>
    refine ⟨_, hs _ _, fun b hb => ?_, ?_, ?_, ?_, ?_, ?_⟩
    · simp only [px_u_ne _ _ _ hb]
    all_goals simp [px_u]
theorem e_isBetter (M : px_M) : f_X0_isBetter M = some (if M 67 1 = M 66 1 then (if M 67 2 = M 66 2 then (if (M 67 0 &&& (M 67 0 ^^^ M 66 0)) &&& -(M 67 0 ^^^ M 66 0) = 0 then 0 else 1) else (if M 66 2 ≤ M 67 2 then 0 else 1)) else (if M 67 1 ≤ M 66 1 then 0 else 1)) := by
  unfold f_X0_isBetter f_X0_isBetter_105 f_X0_isBetter_71 f_X0_isBetter_35
  simp only [nm_u, cl0, cl1, cl2]
  repeat' split
  all_goals first | rfl | contradiction
theorem c_loop2 {M : px_M} (bu bo : Int32) : ∀ (m j : Nat) (M1 : px_M), j + m = 5 → (∀ b, b ≠ 66 → b ≠ 67 → M1 b = M b) → (∀ t, t < j → M1 66 t = 0 ∧ M1 67 t = 0) →
    ∃ M2, lpf (fun a : Int32 × px_M => f_X0_findBest_2 a.2 bu bo a.1) (nI j, M1) = some M2 ∧ (∀ b, b ≠ 66 → b ≠ 67 → M2 b = M b) ∧ (∀ t, t < 5 → M2 66 t = 0 ∧ M2 67 t = 0) := by
  intro m
  induction m with
  | zero =>
    intro j M1 hj hF hZ
    obtain rfl : j = 5 := by omega
    refine ⟨M1, lpf_end ?_, hF, hZ⟩
    show f_X0_findBest_2 M1 bu bo (nI 5) = _
    unfold f_X0_findBest_2
    exact if_pos (Int32.le_refl _)
  | succ m ih =>
    intro j M1 hj hF hZ
    have hb : f_X0_findBest_2 M1 bu bo (nI j) = some (.inl (nI j + 1, px_u (px_u M1 66 j 0) 67 j 0)) := by
      unfold f_X0_findBest_2
      rw [if_neg (nI_ge (by omega) (by decide))]
      simp only [nm_u, ix_ok (show j < 5 by omega) (by decide : 5 < 2 ^ 31), ok_y, nI_clamp (show j < 2 ^ 31 by omega)]
    rw [lpf_go (show (fun a : Int32 × px_M => f_X0_findBest_2 a.2 bu bo a.1) (nI j, M1) = _ from hb), nI_1]
    refine ih (j + 1) _ (by omega) (fun b h1 h2 => by rw [px_u_ne _ _ _ h2, px_u_ne _ _ _ h1]; exact hF b h1 h2) (fun t ht => ?_)
    by_cases e : t = j
    · subst e; exact ⟨by rw [px_u_ne _ _ _ (by decide), px_u_in], by rw [px_u_in]⟩
    · have h9 := hZ t (by omega)
      exact ⟨by rw [px_u_ne _ _ _ (by decide), px_u_nj _ _ e]; exact h9.1, by rw [px_u_nj _ _ e, px_u_ne _ _ _ (by decide)]; exact h9.2⟩
theorem lowIn_trans {a b c : Nat} (h1 : lowIn a b) (h2 : lowIn b c) : lowIn a c := by
  obtain ⟨j, j1, j2, j3, j4⟩ := h1
  obtain ⟨i, i1, i2, i3, i4⟩ := h2
  rcases Nat.lt_trichotomy j i with q | q | q
  · exact ⟨j, j1, j2, by rw [← i4 j q]; exact j3, fun m hm => (j4 m hm).trans (i4 m (by omega))⟩
  · subst q; rw [j3] at i2; cases i2
  · exact ⟨i, i1, by rw [j4 i q]; exact i2, i3, fun m hm => (j4 m (by omega)).trans (i4 m hm)⟩
theorem lowIn_irr {a : Nat} (h : lowIn a a) : False := by
  obtain ⟨j, -, j2, j3, -⟩ := h
  rw [j2] at j3; cases j3
theorem ahead_irr {g c : Nat → Int32} {a : Nat} (h : ahead g c a a) : False := by
  rcases h with h | ⟨-, h | ⟨-, h⟩⟩
  · exact Int32.lt_irrefl h
  · exact Int32.lt_irrefl h
  · exact lowIn_irr h
theorem ahead_trans {g c : Nat → Int32} {x y z : Nat} (h1 : ahead g c x y) (h2 : ahead g c y z) : ahead g c x z := by
  unfold ahead at *
  rcases h1 with h1 | ⟨e1, h1⟩
  · rcases h2 with h2 | ⟨e2, h2⟩
    · exact Or.inl (Int32.lt_trans h2 h1)
    · exact Or.inl (by rw [← e2]; exact h1)
  · rcases h2 with h2 | ⟨e2, h2⟩
    · exact Or.inl (by rw [e1]; exact h2)
    · refine Or.inr ⟨e1.trans e2, ?_⟩
      rcases h1 with h1 | ⟨f1, h1⟩
      · rcases h2 with h2 | ⟨f2, h2⟩
        · exact Or.inl (Int32.lt_trans h1 h2)
        · exact Or.inl (by rw [← f2]; exact h1)
      · rcases h2 with h2 | ⟨f2, h2⟩
        · exact Or.inl (by rw [f1]; exact h2)
        · exact Or.inr ⟨f1.trans f2, lowIn_trans h1 h2⟩
set_option maxHeartbeats 1000000 in
theorem c_loop33 {M : px_M} {k : Nat} (hk : M 61 4 = nI k) (hk2 : k ≤ 12) (bu bo : Int32) : ∀ (m j : Nat) (M1 : px_M), j + m = 2 ^ k → 1 ≤ j → (∀ b, b ≠ 66 → b ≠ 67 → M1 b = M b) → rowT M k (gr (j - 1)) (M1 67) →
    (∃ b, b < 2 ^ k ∧ (b = 0 ∨ okS M k bu bo b) ∧ rowT M k b (M1 66) ∧ ∀ t, t < j → (gr t = 0 ∨ okS M k bu bo (gr t)) → ¬ ahead (fun s => sm (M 64) s k) (fun s => sm (M 65) s k) (gr t) b) →
    ∃ M2, lpf (fun a : Int32 × px_M => f_X0_findBest_33 a.2 bu bo a.1) (nI j, M1) = some M2 ∧ (∀ b, b ≠ 66 → b ≠ 67 → M2 b = M b) ∧ ∃ b, bestC M k bu bo b ∧ rowT M k b (M2 66) := by
  have hp12 : 2 ^ k ≤ 2 ^ 12 := Nat.pow_le_pow_right (by decide) hk2
  intro m
  induction m with
  | zero =>
    intro j M1 hj h1 hF hT hB
    obtain rfl : j = 2 ^ k := by omega
    have hk1 : M1 61 4 = nI k := by rw [hF 61 (by decide) (by decide)]; exact hk
    obtain ⟨b, b1, b2, b3, b4⟩ := hB
    refine ⟨M1, lpf_end ?_, hF, b, ⟨b1, b2, fun s hs hok => ?_⟩, b3⟩
    · show f_X0_findBest_33 M1 bu bo (nI (2 ^ k)) = _
      unfold f_X0_findBest_33
      rw [hk1, shl1 k (by omega)]
      exact if_pos (Int32.le_refl _)
    · have h9 := b4 (gi s) (gi_lt hs)
      rw [gr_inv (by omega)] at h9
      exact h9 hok
  | succ m ih =>
    intro j M1 hj h1 hF hT hB
    have hk1 : M1 61 4 = nI k := by rw [hF 61 (by decide) (by decide)]; exact hk
    have hj12 : j < 4096 := by omega
    obtain ⟨b, b1, b2, b3, b4⟩ := hB
    obtain ⟨-, g2, g3, g4⟩ := gr_step (show 0 < j by omega) hj12
    have htk : tz j < k := by
      refine Nat.lt_of_not_le fun q => ?_
      have : 2 ^ k ≤ 2 ^ tz j := Nat.pow_le_pow_right (by decide) q
      omega
    have hgl : gr (j - 1) < 4096 := gr_lt (k := 12) (by omega)
    have hgj : gr j < 2 ^ k := gr_lt (by omega)
    obtain ⟨M2, hch, f1, f2, f3, f4, f5, f6⟩ := c_change (j := tz j) hk1 hk2 htk
    have hF2 : ∀ q, q ≠ 66 → q ≠ 67 → M2 q = M q := fun q h1 h2 => by rw [f1 q h2]; exact hF q h1 h2
    have hT2 : rowT M k (gr j) (M2 67) := by
      rw [g3]
      rw [hF 64 (by decide) (by decide)] at f3 f5 f6
      rw [hF 65 (by decide) (by decide)] at f4
      rw [hF 62 (by decide) (by decide)] at f5
      rw [hF 63 (by decide) (by decide)] at f6
      exact rowT_flip hgl hk2 htk hT f2 f3 f4 f5 f6
    have hB2 : rowT M k b (M2 66) := by rw [f1 66 (by decide)]; exact b3
    obtain ⟨t0, t1, t2, t3, t4⟩ := id hT2
    obtain ⟨r0, r1, r2, r3, r4⟩ := id hB2
    have hgo : ∀ (M3 : px_M) (b' : Nat), f_X0_findBest_33 M1 bu bo (nI j) = some (.inl (nI j + 1, M3)) → (∀ q, q ≠ 66 → q ≠ 67 → M3 q = M q) → M3 67 = M2 67 → b' < 2 ^ k → (b' = 0 ∨ okS M k bu bo b') → rowT M k b' (M3 66) →
        (∀ t, t < j → (gr t = 0 ∨ okS M k bu bo (gr t)) → ¬ ahead (fun s => sm (M 64) s k) (fun s => sm (M 65) s k) (gr t) b') → ((gr j = 0 ∨ okS M k bu bo (gr j)) → ¬ ahead (fun s => sm (M 64) s k) (fun s => sm (M 65) s k) (gr j) b') →
        ∃ M2, lpf (fun a : Int32 × px_M => f_X0_findBest_33 a.2 bu bo a.1) (nI j, M1) = some M2 ∧ (∀ b, b ≠ 66 → b ≠ 67 → M2 b = M b) ∧ ∃ b, bestC M k bu bo b ∧ rowT M k b (M2 66) := by
      intro M3 b' hb c1 c2 c3 c4 c5 c6 c7
      rw [lpf_go (show (fun a : Int32 × px_M => f_X0_findBest_33 a.2 bu bo a.1) (nI j, M1) = _ from hb), nI_1]
      refine ih (j + 1) M3 (by omega) (by omega) c1 (by rw [c2]; exact hT2) ⟨b', c3, c4, c5, fun t ht hok => ?_⟩
      rcases Nat.lt_or_ge t j with q | q
      · exact c6 t q hok
      · rw [show t = j by omega] at hok ⊢; exact c7 hok
    have hne0 : gr j ≠ 0 := by
      intro q
      have h9 := gr_inv0
      have e1 : gr j = gr 0 := by rw [q]; rfl
      have e2 : ∀ i, i < 4096 → gi (gr i) = i := by
        have : (List.range 4096).all (fun i => decide (gi (gr i) = i)) = true := by decide +kernel
        exact fun i hi => co_dec (P := fun i => gi (gr i) = i) this hi
      have e3 := e2 j hj12
      rw [e1, e2 0 (by decide)] at e3
      omega
    have hhead : f_X0_findBest_33 M1 bu bo (nI j) = if bo < am (M2 67 3) then f_X0_findBest_81 M2 bu bo (nI j) else if bo < am (M2 67 4) then f_X0_findBest_81 M2 bu bo (nI j) else f_X0_findBest_82 M2 bu bo (nI j) 1 := by
      unfold f_X0_findBest_33
      rw [hk1, shl1 k (by omega), if_neg (nI_ge (by omega) (by omega)), e_ntz (by omega) hj12, bd1_e, hch, bd1_e, e_abs, bd1_e, e_abs, bd1_e]
      rfl
    have hno : ∀ z : Int32, (z = 0 ∨ bu < M2 67 2) → f_X0_findBest_82 M2 bu bo (nI j) z = some (.inl (nI j + 1, M2)) := by
      intro z hz
      unfold f_X0_findBest_82 f_X0_findBest_124
      rw [cl2]
      by_cases q : bu < M2 67 2
      · rw [if_pos q]
      · rw [if_neg q, if_pos (hz.resolve_right q)]
    by_cases q3 : bo < am (M2 67 3)
    · refine hgo M2 b (by rw [hhead, if_pos q3]; exact hno 0 (Or.inl rfl)) hF2 rfl b1 b2 hB2 b4 (fun hok => ?_)
      rcases hok with h | h
      · exact absurd h hne0
      · exact absurd h.2.1 (by rw [← t3]; exact Int32.not_le.mpr q3)
    · by_cases q4 : bo < am (M2 67 4)
      · refine hgo M2 b (by rw [hhead, if_neg q3, if_pos q4]; exact hno 0 (Or.inl rfl)) hF2 rfl b1 b2 hB2 b4 (fun hok => ?_)
        rcases hok with h | h
        · exact absurd h hne0
        · exact absurd h.2.2 (by rw [← t4]; exact Int32.not_le.mpr q4)
      · by_cases q2 : bu < M2 67 2
        · refine hgo M2 b (by rw [hhead, if_neg q3, if_neg q4]; exact hno 1 (Or.inr q2)) hF2 rfl b1 b2 hB2 b4 (fun hok => ?_)
          rcases hok with h | h
          · exact absurd h hne0
          · exact absurd h.1 (by rw [← t2]; exact Int32.not_le.mpr q2)
        · have hokj : okS M k bu bo (gr j) := ⟨by rw [← t2]; exact Int32.not_lt.mp q2, by rw [← t3]; exact Int32.not_lt.mp q3, by rw [← t4]; exact Int32.not_lt.mp q4⟩
          have hah : ∃ v : Int32, f_X0_isBetter M2 = some v ∧ (v = 0 ↔ ¬ ahead (fun s => sm (M 64) s k) (fun s => sm (M 65) s k) (gr j) b) := by
            refine ⟨_, e_isBetter M2, ?_⟩
            rw [t0, t1, t2, r0, r1, r2]
            have hl := lowIn_iff (s := gr j) (b := b) (by omega) (by omega)
            unfold ahead
            by_cases z1 : sm (M 64) (gr j) k = sm (M 64) b k
            · rw [if_pos z1]
              by_cases z2 : sm (M 65) (gr j) k = sm (M 65) b k
              · rw [if_pos z2]
                by_cases z3 : (nI (gr j) &&& (nI (gr j) ^^^ nI b)) &&& -(nI (gr j) ^^^ nI b) = 0
                · rw [if_pos z3]
                  refine ⟨fun _ q => ?_, fun _ => rfl⟩
                  rcases q with q | ⟨-, q | ⟨-, q⟩⟩
                  · simp only [z1] at q; exact Int32.lt_irrefl q
                  · simp only [z2] at q; exact Int32.lt_irrefl q
                  · exact hl.mp z3 q
                · rw [if_neg z3]
                  refine ⟨fun q => absurd q (by decide), fun q => absurd (Or.inr ⟨z1, Or.inr ⟨z2, ?_⟩⟩) q⟩
                  exact Classical.byContradiction fun q2 => z3 (hl.mpr q2)
              · rw [if_neg z2]
                by_cases z3 : sm (M 65) b k ≤ sm (M 65) (gr j) k
                · rw [if_pos z3]
                  refine ⟨fun _ q => ?_, fun _ => rfl⟩
                  rcases q with q | ⟨-, q | ⟨q, -⟩⟩
                  · simp only [z1] at q; exact Int32.lt_irrefl q
                  · exact Int32.not_le.mpr q z3
                  · exact z2 q
                · rw [if_neg z3]
                  exact ⟨fun q => absurd q (by decide), fun q => absurd (Or.inr ⟨z1, Or.inl (Int32.not_le.mp z3)⟩) q⟩
            · rw [if_neg z1]
              by_cases z3 : sm (M 64) (gr j) k ≤ sm (M 64) b k
              · rw [if_pos z3]
                refine ⟨fun _ q => ?_, fun _ => rfl⟩
                rcases q with q | ⟨q, -⟩
                · exact Int32.not_le.mpr q z3
                · exact z1 q
              · rw [if_neg z3]
                exact ⟨fun q => absurd q (by decide), fun q => absurd (Or.inl (Int32.not_le.mp z3)) q⟩
          obtain ⟨v, hv, hv0⟩ := hah
          have h82 : f_X0_findBest_82 M2 bu bo (nI j) 1 = if v = 0 then some (.inl (nI j + 1, M2)) else some (.inl (nI j + 1, px_c M2 66 (va_cpy (M2 67) (M2 66) 0 0 5))) := by
            unfold f_X0_findBest_82 f_X0_findBest_124
            rw [cl2, if_neg q2, if_neg (by decide), hv, bd1_e]
            rfl
          by_cases hz : v = 0
          · exact hgo M2 b (by rw [hhead, if_neg q3, if_neg q4, h82, if_pos hz]) hF2 rfl b1 b2 hB2 b4 (fun _ => hv0.mp hz)
          · have hA : ahead (fun s => sm (M 64) s k) (fun s => sm (M 65) s k) (gr j) b := Classical.byContradiction fun q => hz (hv0.mpr q)
            refine hgo _ (gr j) (by rw [hhead, if_neg q3, if_neg q4, h82, if_neg hz]) (fun q h1 h2 => by rw [px_c_ne _ _ h1]; exact hF2 q h1 h2) (px_c_ne _ _ (by decide)) hgj (Or.inr hokj) ?_ (fun t ht hok q => ?_) (fun _ q => ?_)
            · rw [px_c_in]
              exact ⟨t0, t1, t2, t3, t4⟩
            · exact b4 t ht hok (ahead_trans q hA)
            · exact ahead_irr q
theorem c_findBest {M : px_M} {k : Nat} (hk : M 61 4 = nI k) (hk2 : k ≤ 12) (bu bo : Int32) : ∃ M2 b, f_X0_findBest M bu bo = some M2 ∧ (∀ b, b ≠ 66 → b ≠ 67 → M2 b = M b) ∧ bestC M k bu bo b ∧ rowT M k b (M2 66) := by
  obtain ⟨M1, h1, h2, h3⟩ := c_loop2 (M := M) bu bo 5 0 M rfl (fun _ _ _ => rfl) (fun t ht => absurd ht (by omega))
  have hp : 1 ≤ 2 ^ k := Nat.one_le_two_pow
  obtain ⟨M2, g1, g2, b, g3, g4⟩ := c_loop33 hk hk2 bu bo (2 ^ k - 1) 1 M1 (by omega) (by omega) h2 (rowT_0 M k (fun t ht => (h3 t ht).2)) ⟨0, by omega, Or.inl rfl, rowT_0 M k (fun t ht => (h3 t ht).1), fun t ht _ q => by
    obtain rfl : t = 0 := by omega
    exact ahead_irr q⟩
  refine ⟨M2, b, ?_, g2, g3, g4⟩
  unfold f_X0_findBest
  rw [show (0 : Int32) = nI 0 from rfl, h1, bd1_e, show (1 : Int32) = nI 1 from rfl, g1, bd1_e]
/-! the reference -/
def fW (M : px_M) (w : Nat) (j : Nat) : Int32 := if w = 1 then M 217 j else if w = 2 then M 218 j else if w = 3 then M 217 j * M 215 j else M 217 j * M 216 j
theorem m_sumOf {M : px_M} {k s w : Nat} (hk : M 73 59 = nI k) (hk2 : k ≤ 12) (hs : s < 4096) (hw : 1 ≤ w ∧ w ≤ 4) : f_X12_sumOf M (nI s) (nI w) = some (sm (fW M w) s k) := by
  have key : ∀ (m j : Nat), j + m = k → lpf (fun a : Int32 × Int32 => f_X12_sumOf_5 M (nI s) (nI w) a.1 a.2) (sm (fW M w) s j, nI j) = some (sm (fW M w) s k) := by
    intro m
    induction m with
    | zero =>
      intro j hj
      obtain rfl : j = k := by omega
      refine lpf_end ?_
      show f_X12_sumOf_5 M (nI s) (nI w) (sm (fW M w) s j) (nI j) = _
      unfold f_X12_sumOf_5
      rw [hk]
      exact if_pos (Int32.le_refl _)
    | succ m ih =>
      intro j hj
      have hb : f_X12_sumOf_5 M (nI s) (nI w) (sm (fW M w) s j) (nI j) = some (.inl (sm (fW M w) s (j + 1), nI j + 1)) := by
        unfold f_X12_sumOf_5 f_X12_sumOf_93 f_X12_sumOf_95
        rw [hk, if_neg (nI_ge (by omega) (by omega))]
        have hbit := bit_iff (s := s) (t := j) (by omega) (by omega)
        have hi : ix (nI j) 12 = true := ix_ok (by omega) (by decide)
        simp only [hbit, nm_u, hi, ok_y, nI_clamp (show j < 2 ^ 31 by omega)]
        rw [sm]
        cases e : s.testBit j
        · simp
        · obtain ⟨w1, w2⟩ := hw
          rcases (show w = 1 ∨ w = 2 ∨ w = 3 ∨ w = 4 by omega) with rfl | rfl | rfl | rfl <;> simp [fW] <;> first | rfl | (intro h; exact absurd rfl h)
      rw [lpf_go (show (fun a : Int32 × Int32 => f_X12_sumOf_5 M (nI s) (nI w) a.1 a.2) (sm (fW M w) s j, nI j) = _ from hb), nI_1]
      exact ih (j + 1) (by omega)
  unfold f_X12_sumOf
  have := key k 0 (by omega)
  rw [show sm (fW M w) s 0 = 0 from rfl, nI_0] at this
  rw [this, bd1_e]
theorem bit_eq {a b t : Nat} (ha : a < 2 ^ 31) (hb : b < 2 ^ 31) (ht : t < 32) : ((nI a >>> (nI t &&& 31)) &&& 1 = (nI b >>> (nI t &&& 31)) &&& 1) ↔ a.testBit t = b.testBit t := by
  have h1 := bit_iff ha ht
  have h2 := bit_iff hb ht
  rw [bit1 ha ht, bit1 hb ht]
  rw [bit1 ha ht] at h1
  rw [bit1 hb ht] at h2
  have ea : a / 2 ^ t % 2 < 2 := Nat.mod_lt _ (by decide)
  have eb : b / 2 ^ t % 2 < 2 := Nat.mod_lt _ (by decide)
  rw [nI_eq (by omega) (by omega)]
  rw [show (1 : Int32) = nI 1 from rfl, nI_eq (by omega) (by decide)] at h1 h2
  cases e1 : a.testBit t <;> cases e2 : b.testBit t <;> simp [e1, e2] at h1 h2 ⊢ <;> omega
theorem m_first {M : px_M} {a b : Nat} (ha : a < 4096) (hb : b < 4096) : ∃ i, i ≤ 12 ∧ lpf (fun x : Int32 => f_X12_isAhead_74 M (nI a) (nI b) x) 0 = some (nI i) ∧ (∀ t, t < i → a.testBit t = b.testBit t) ∧ (i = 12 ∨ a.testBit i ≠ b.testBit i) := by
  have key : ∀ (m j : Nat), j + m = 12 → (∀ t, t < j → a.testBit t = b.testBit t) → ∃ i, i ≤ 12 ∧ lpf (fun x : Int32 => f_X12_isAhead_74 M (nI a) (nI b) x) (nI j) = some (nI i) ∧ (∀ t, t < i → a.testBit t = b.testBit t) ∧ (i = 12 ∨ a.testBit i ≠ b.testBit i) := by
    intro m
    induction m with
    | zero =>
      intro j hj hs
      obtain rfl : j = 12 := by omega
      exact ⟨12, by omega, lpf_end (by show f_X12_isAhead_74 M (nI a) (nI b) (nI 12) = _; unfold f_X12_isAhead_74; exact if_pos (by decide)), hs, Or.inl rfl⟩
    | succ m ih =>
      intro j hj hs
      have h12 : ¬ (12 : Int32) ≤ nI j := nI_ge (b := 12) (by omega) (by decide)
      by_cases e : a.testBit j = b.testBit j
      · have hbd : f_X12_isAhead_74 M (nI a) (nI b) (nI j) = some (.inl (nI j + 1)) := by
          unfold f_X12_isAhead_74
          rw [if_neg h12, if_pos ((bit_eq (by omega) (by omega) (by omega)).mpr e)]
        obtain ⟨i, q1, q2, q3, q4⟩ := ih (j + 1) (by omega) (fun t ht => by
          rcases Nat.lt_or_ge t j with q | q
          · exact hs t q
          · rw [show t = j by omega]; exact e)
        exact ⟨i, q1, by rw [lpf_go (show (fun x : Int32 => f_X12_isAhead_74 M (nI a) (nI b) x) (nI j) = _ from hbd), nI_1]; exact q2, q3, q4⟩
      · refine ⟨j, by omega, lpf_end ?_, hs, Or.inr e⟩
        show f_X12_isAhead_74 M (nI a) (nI b) (nI j) = _
        unfold f_X12_isAhead_74
        rw [if_neg h12, if_neg (fun q => e ((bit_eq (by omega) (by omega) (by omega)).mp q))]
  exact key 12 0 (by omega) (fun t ht => absurd ht (by omega))
theorem m_isAhead {M : px_M} {k a b : Nat} (hk : M 73 59 = nI k) (hk2 : k ≤ 12) (ha : a < 4096) (hb : b < 4096) : ∃ v : Int32, f_X12_isAhead M (nI a) (nI b) = some v ∧ (v = 0 ↔ ¬ ahead (fun s => sm (fW M 1) s k) (fun s => sm (fW M 2) s k) a b) := by
  have s1 : ∀ s, s < 4096 → f_X12_sumOf M (nI s) 1 = some (sm (fW M 1) s k) := fun s hs => m_sumOf (w := 1) hk hk2 hs (by omega)
  have s2 : ∀ s, s < 4096 → f_X12_sumOf M (nI s) 2 = some (sm (fW M 2) s k) := fun s hs => m_sumOf (w := 2) hk hk2 hs (by omega)
  unfold f_X12_isAhead ahead
  simp only [s1 a ha, s1 b hb, s2 a ha, s2 b hb, bd1_e]
  by_cases z1 : sm (fW M 1) a k = sm (fW M 1) b k
  · rw [if_pos z1]
    by_cases z2 : sm (fW M 2) a k = sm (fW M 2) b k
    · rw [if_pos z2]
      obtain ⟨i, q1, q2, q3, q4⟩ := m_first (M := M) ha hb
      rw [q2, bd1_e]
      rcases q4 with q4 | q4
      · subst q4
        refine ⟨0, by rw [if_pos (by decide)]; rfl, fun _ q => ?_, fun _ => rfl⟩
        rcases q with q | ⟨-, q | ⟨-, j, j1, j2, j3, -⟩⟩
        · rw [z1] at q; exact Int32.lt_irrefl q
        · rw [z2] at q; exact Int32.lt_irrefl q
        · rw [q3 j j1, j3] at j2; cases j2
      · have hi : i < 12 := by
          refine Nat.lt_of_not_le fun q => q4 ?_
          obtain rfl : i = 12 := by omega
          rw [Nat.testBit_lt_two_pow (show a < 2 ^ 12 from ha), Nat.testBit_lt_two_pow (show b < 2 ^ 12 from hb)]
        rw [if_neg (show ¬ (12 : Int32) ≤ nI i from nI_ge (b := 12) hi (by decide))]
        by_cases z3 : a.testBit i = true
        · refine ⟨1, by rw [if_pos ((bit_iff (by omega) (by omega)).mpr z3)]; rfl, fun q => absurd q (by decide), fun q => absurd (Or.inr ⟨z1, Or.inr ⟨z2, i, hi, z3, ?_, q3⟩⟩) q⟩
          cases e : b.testBit i
          · rfl
          · rw [z3, e] at q4; exact absurd rfl q4
        · refine ⟨0, by rw [if_neg (fun q => z3 ((bit_iff (by omega) (by omega)).mp q))]; rfl, fun _ q => ?_, fun _ => rfl⟩
          rcases q with q | ⟨-, q | ⟨-, j, j1, j2, j3, j4⟩⟩
          · rw [z1] at q; exact Int32.lt_irrefl q
          · rw [z2] at q; exact Int32.lt_irrefl q
          · rcases Nat.lt_trichotomy i j with w | w | w
            · exact q4 (j4 i w)
            · subst w; exact z3 j2
            · rw [q3 j w, j3] at j2; cases j2
    · rw [if_neg z2]
      by_cases z3 : sm (fW M 2) b k ≤ sm (fW M 2) a k
      · refine ⟨0, by rw [if_pos z3]; rfl, fun _ q => ?_, fun _ => rfl⟩
        rcases q with q | ⟨-, q | ⟨q, -⟩⟩
        · rw [z1] at q; exact Int32.lt_irrefl q
        · exact Int32.not_le.mpr q z3
        · exact z2 q
      · exact ⟨1, by rw [if_neg z3]; rfl, fun q => absurd q (by decide), fun q => absurd (Or.inr ⟨z1, Or.inl (Int32.not_le.mp z3)⟩) q⟩
  · rw [if_neg z1]
    by_cases z3 : sm (fW M 1) a k ≤ sm (fW M 1) b k
    · refine ⟨0, by rw [if_pos z3]; rfl, fun _ q => ?_, fun _ => rfl⟩
      rcases q with q | ⟨q, -⟩
      · exact Int32.not_le.mpr q z3
      · exact z1 q
    · exact ⟨1, by rw [if_neg z3]; rfl, fun q => absurd q (by decide), fun q => absurd (Or.inl (Int32.not_le.mp z3)) q⟩
def okM (M : px_M) (k : Nat) (bu bo : Int32) (s : Nat) : Prop := sm (fW M 2) s k ≤ bu ∧ am (sm (fW M 3) s k) ≤ bo ∧ am (sm (fW M 4) s k) ≤ bo
theorem m_loop57 {M : px_M} {k : Nat} (hk : M 73 59 = nI k) (hk2 : k ≤ 12) (bu bo w : Int32) : ∀ (m j b : Nat), j + m = 2 ^ k → 1 ≤ j → b < 2 ^ k → (b = 0 ∨ okM M k bu bo b) → (∀ t, t < j → (t = 0 ∨ okM M k bu bo t) → ¬ ahead (fun s => sm (fW M 1) s k) (fun s => sm (fW M 2) s k) t b) →
    ∃ b', lpf (fun a : Int32 × Int32 => f_X12_sheet_57 M bu bo w a.1 a.2) (nI b, nI j) = some (nI b') ∧ bestSet (fun s => sm (fW M 1) s k) (fun s => sm (fW M 2) s k) (okM M k bu bo) (2 ^ k) b' := by
  have hp12 : 2 ^ k ≤ 2 ^ 12 := Nat.pow_le_pow_right (by decide) hk2
  have sW : ∀ (v : Nat), (1 ≤ v ∧ v ≤ 4) → ∀ s, s < 4096 → f_X12_sumOf M (nI s) (nI v) = some (sm (fW M v) s k) := fun v hv s hs => m_sumOf hk hk2 hs hv
  intro m
  induction m with
  | zero =>
    intro j b hj h1 hb hok hbest
    obtain rfl : j = 2 ^ k := by omega
    refine ⟨b, lpf_end ?_, hb, hok, hbest⟩
    show f_X12_sheet_57 M bu bo w (nI b) (nI (2 ^ k)) = _
    unfold f_X12_sheet_57
    rw [hk, shl1 k (by omega)]
    exact if_pos (Int32.le_refl _)
  | succ m ih =>
    intro j b hj h1 hb hok hbest
    have hj12 : j < 4096 := by omega
    have hgo : ∀ b', f_X12_sheet_57 M bu bo w (nI b) (nI j) = some (.inl (nI b', nI j + 1)) → b' < 2 ^ k → (b' = 0 ∨ okM M k bu bo b') → (∀ t, t < j → (t = 0 ∨ okM M k bu bo t) → ¬ ahead (fun s => sm (fW M 1) s k) (fun s => sm (fW M 2) s k) t b') → ((j = 0 ∨ okM M k bu bo j) → ¬ ahead (fun s => sm (fW M 1) s k) (fun s => sm (fW M 2) s k) j b') →
        ∃ b', lpf (fun a : Int32 × Int32 => f_X12_sheet_57 M bu bo w a.1 a.2) (nI b, nI j) = some (nI b') ∧ bestSet (fun s => sm (fW M 1) s k) (fun s => sm (fW M 2) s k) (okM M k bu bo) (2 ^ k) b' := by
      intro b' hbd c1 c2 c3 c4
      rw [lpf_go (show (fun a : Int32 × Int32 => f_X12_sheet_57 M bu bo w a.1 a.2) (nI b, nI j) = _ from hbd), nI_1]
      refine ih (j + 1) b' (by omega) (by omega) c1 c2 (fun t ht hok => ?_)
      rcases Nat.lt_or_ge t j with q | q
      · exact c3 t q hok
      · rw [show t = j by omega] at hok ⊢; exact c4 hok
    obtain ⟨v, hv, hv0⟩ := m_isAhead (M := M) (a := j) (b := b) hk hk2 hj12 (by omega)
    have hhead : f_X12_sheet_57 M bu bo w (nI b) (nI j) = if bu < sm (fW M 2) j k then some (.inl (nI b, nI j + 1)) else if bo < am (sm (fW M 3) j k) then some (.inl (nI b, nI j + 1)) else if am (sm (fW M 4) j k) ≤ bo then (if v = 0 then some (.inl (nI b, nI j + 1)) else some (.inl (nI j, nI j + 1))) else some (.inl (nI b, nI j + 1)) := by
      unfold f_X12_sheet_57 f_X12_sheet_128 f_X12_sheet_130
      rw [hk, shl1 k (by omega), if_neg (nI_ge (by omega) (by omega)), show (2 : Int32) = nI 2 from rfl, show (3 : Int32) = nI 3 from rfl, show (4 : Int32) = nI 4 from rfl, sW 2 (by omega) j hj12, sW 3 (by omega) j hj12, sW 4 (by omega) j hj12, hv]
      simp only [bd1_e, e_amount]
    have hj0 : j ≠ 0 := by omega
    by_cases q2 : bu < sm (fW M 2) j k
    · exact hgo b (by rw [hhead, if_pos q2]) hb hok hbest (fun h => h.elim (fun h => absurd h hj0) (fun h => absurd h.1 (Int32.not_le.mpr q2)))
    · by_cases q3 : bo < am (sm (fW M 3) j k)
      · exact hgo b (by rw [hhead, if_neg q2, if_pos q3]) hb hok hbest (fun h => h.elim (fun h => absurd h hj0) (fun h => absurd h.2.1 (Int32.not_le.mpr q3)))
      · by_cases q4 : am (sm (fW M 4) j k) ≤ bo
        · by_cases hz : v = 0
          · exact hgo b (by rw [hhead, if_neg q2, if_neg q3, if_pos q4, if_pos hz]) hb hok hbest (fun _ => hv0.mp hz)
          · have hA := Classical.byContradiction fun q => hz (hv0.mpr q)
            exact hgo j (by rw [hhead, if_neg q2, if_neg q3, if_pos q4, if_neg hz]) (by omega) (Or.inr ⟨Int32.not_lt.mp q2, Int32.not_lt.mp q3, q4⟩) (fun t ht hok q => hbest t ht hok (ahead_trans q hA)) (fun _ q => ahead_irr q)
        · exact hgo b (by rw [hhead, if_neg q2, if_neg q3, if_neg q4]) hb hok hbest (fun h => h.elim (fun h => absurd h hj0) (fun h => absurd h.2.2 q4))
theorem sm_congr {f g : Nat → Int32} {k : Nat} (h : ∀ j, j < k → f j = g j) (s : Nat) : sm f s k = sm g s k := by
  induction k with
  | zero => rfl
  | succ k ih => rw [sm, sm, ih (fun j hj => h j (by omega)), h k (by omega)]
theorem p_sheet {M : px_M} (hI : Icat M) (p1 p2 p3 : Int32) :
    (∃ r M1 M2, f_X11_sheet M p1 p2 p3 = some (.inl (r, M1)) ∧ f_X12_sheet M1 p1 p2 p3 = some (r, M2) ∧ M2 73 0 = 0 ∧ Icat M2 ∧ chg S_cat M M2) ∨
    (∃ b M2, f_X11_sheet M p1 p2 p3 = some (.inr 0) ∧ f_X12_sheet M p1 p2 p3 = some (b, M2) ∧ M2 73 0 = 1 ∧ Icat M2 ∧ chg S_cat M M2) := by
  have hbad : ∀ M' : px_M, f_X12_sheet_37 (px_u M' 73 0 0) p1 p2 p3 = some (0, px_u (px_u M' 73 0 0) 73 0 1) := by
    intro M'
    unfold f_X12_sheet_37 f_X12_sheet_42
    rw [e_bad_t (px_u_in _ _ _ _) (by decide), bd1_e]
    rfl
  have hg : ((0 ≤ p3 ∧ p3 ≤ 4) ∧ ∀ M', f_X11_sheet M' p1 p2 p3 = bd1 (f_X11_sheet_39 M' p1 p2 p3) (fun e => some (.inl e)) ∧ f_X12_sheet M' p1 p2 p3 = f_X12_sheet_42 (px_u M' 73 0 0) p1 p2 p3 0) ∨ (∀ M', f_X11_sheet M' p1 p2 p3 = some (.inr 0) ∧ f_X12_sheet M' p1 p2 p3 = some (0, px_u (px_u M' 73 0 0) 73 0 1)) := by
    by_cases h1 : 0 ≤ p1 ∧ p1 ≤ 1200 <;> by_cases h2 : 0 ≤ p2 ∧ p2 ≤ 1000000 <;> by_cases h3 : 0 ≤ p3 ∧ p3 ≤ 4 <;>
    first
    | (left; refine ⟨h3, ?_⟩; intro M'; unfold f_X11_sheet f_X12_sheet f_X11_sheet_36; simp [e_within, e_in, bd1_e, nm_u, bI_0, h1, h2, h3]; done)
    | (right; intro M'; unfold f_X11_sheet f_X12_sheet f_X11_sheet_35 f_X11_sheet_36; simp [e_within, e_in, bd1_e, nm_u, bI_0, h1, h2, h3, hbad]; done)
  rcases hg with ⟨h3, hg⟩ | hg
  · left
    obtain ⟨k, hk, e1, e2, e3⟩ := hI
    obtain ⟨w, hw, rfl⟩ := nI_of2 (M := 4) (n := 4) rfl (Int32.not_lt.mpr h3.1) h3.2
    obtain ⟨M2, b, c1, c2, c3, c4⟩ := c_findBest (M := M) e1 hk p1 p2
    have hp12 : 2 ^ k ≤ 2 ^ 12 := Nat.pow_le_pow_right (by decide) hk
    have hM3 : ∀ q, q ≠ 66 → q ≠ 67 → q ≠ 73 → (px_u M2 73 0 0) q = M q := fun q h1 h2 h3 => by rw [px_u_ne _ _ _ h3]; exact c2 q h1 h2
    have hk3 : (px_u M2 73 0 0) 73 59 = nI k := by rw [pu_n (by omega), c2 73 (by decide) (by decide)]; exact e2
    have hf : ∀ v, 1 ≤ v ∧ v ≤ 4 → ∀ s, sm (fW (px_u M2 73 0 0) v) s k = sm (if v = 1 then M 64 else if v = 2 then M 65 else if v = 3 then (fun j => M 64 j * M 62 j) else (fun j => M 64 j * M 63 j)) s k := by
      intro v hv s
      refine sm_congr (fun j hj => ?_) s
      obtain ⟨a1, a2, a3, a4⟩ := e3 j hj
      unfold fW
      rw [hM3 217 (by decide) (by decide) (by decide), hM3 218 (by decide) (by decide) (by decide), hM3 215 (by decide) (by decide) (by decide), hM3 216 (by decide) (by decide) (by decide), ← a1, ← a2, ← a3, ← a4]
      rcases (show v = 1 ∨ v = 2 ∨ v = 3 ∨ v = 4 by omega) with rfl | rfl | rfl | rfl <;> rfl
    have f1 : (fun s => sm (fW (px_u M2 73 0 0) 1) s k) = (fun s => sm (M 64) s k) := funext fun s => hf 1 (by omega) s
    have f2 : (fun s => sm (fW (px_u M2 73 0 0) 2) s k) = (fun s => sm (M 65) s k) := funext fun s => hf 2 (by omega) s
    have fo : okM (px_u M2 73 0 0) k p1 p2 = okS M k p1 p2 := by
      funext s
      unfold okM okS
      rw [hf 2 (by omega) s, hf 3 (by omega) s, hf 4 (by omega) s]
      rfl
    obtain ⟨b', g1, g2⟩ := m_loop57 hk3 hk p1 p2 (nI w) (2 ^ k - 1) 1 0 (by have : 1 ≤ 2 ^ k := Nat.one_le_two_pow; omega) (by omega) (by have : 1 ≤ 2 ^ k := Nat.one_le_two_pow; omega) (Or.inl rfl) (fun t ht _ q => by
      obtain rfl : t = 0 := by omega
      exact ahead_irr q)
    rw [f1, f2, fo] at g2
    obtain rfl : b' = b := bestSet_one (by omega) g2 c3
    have hb12 : b' < 4096 := by have := g2.1; omega
    obtain ⟨t0, t1, t2, t3, t4⟩ := c4
    refine ⟨M2 66 w, M2, px_u M2 73 0 0, ?_, ?_, px_u_in _ _ _ _, ?_, ?_⟩
    · rw [(hg M).1, f_X11_sheet_39, c1, bd1_e, ok_t (ix_ok (show w < 5 by omega) (by decide)), nI_clamp (by omega)]
      rfl
    · rw [(hg M2).2, f_X12_sheet_42, e_bad_f (px_u_in _ _ _ _), bd1_e, if_pos rfl]
      simp only
      rw [show (0 : Int32) = nI 0 from rfl, show (1 : Int32) = nI 1 from rfl]
      rw [show nI 0 = (0 : Int32) from rfl] at g1 ⊢
      rw [g1, bd1_e]
      rcases (show w = 0 ∨ (1 ≤ w ∧ w ≤ 4) by omega) with rfl | hw2
      · rw [if_pos (show nI 0 = 0 from rfl), t0]; rfl
      · rw [if_neg (nI_ne0 (by omega) (by omega)), m_sumOf hk3 hk hb12 hw2, bd1_e, hf w hw2 b']
        rcases (show w = 1 ∨ w = 2 ∨ w = 3 ∨ w = 4 by omega) with rfl | rfl | rfl | rfl
        · rw [t1]; rfl
        · rw [t2]; rfl
        · rw [t3]; rfl
        · rw [t4]; rfl
    · refine ⟨k, hk, ?_, hk3, fun i hi => ?_⟩
      · rw [hM3 61 (by decide) (by decide) (by decide)]; exact e1
      · rw [hM3 62 (by decide) (by decide) (by decide), hM3 63 (by decide) (by decide) (by decide), hM3 64 (by decide) (by decide) (by decide), hM3 65 (by decide) (by decide) (by decide), hM3 215 (by decide) (by decide) (by decide), hM3 216 (by decide) (by decide) (by decide), hM3 217 (by decide) (by decide) (by decide), hM3 218 (by decide) (by decide) (by decide)]
        exact e3 i hi
    · intro c j hn
      unfold S_cat at hn
      rw [pu_n (by omega), c2 c (by omega) (by omega)]
  · right
    exact ⟨0, _, (hg M).1, (hg M).2, px_u_in _ _ _ _, (hI.u0 0).u0 1, (chg.rf.u (by unfold S_cat; omega)).u (by unfold S_cat; omega)⟩
