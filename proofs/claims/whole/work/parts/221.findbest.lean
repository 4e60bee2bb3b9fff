/-! the class: the best sheet, found in the order of the Gray code -/
def ab32 (x : Int32) : Int32 := if 0 ≤ x then x else -x
/-- a row of five holds the set s: itself, its gain, its cost, its turns -/
def rowT (M : px_M) (k s : Nat) (r : Nat → Int32) : Prop := r 0 = nI s ∧ r 1 = sm (M 64) s k ∧ r 2 = sm (M 65) s k ∧ r 3 = sm (fun j => M 64 j * M 62 j) s k ∧ r 4 = sm (fun j => M 64 j * M 63 j) s k
def okS (M : px_M) (k : Nat) (bu bo : Int32) (s : Nat) : Prop := sm (M 65) s k ≤ bu ∧ ab32 (sm (fun j => M 64 j * M 62 j) s k) ≤ bo ∧ ab32 (sm (fun j => M 64 j * M 63 j) s k) ≤ bo
abbrev bestC (M : px_M) (k : Nat) (bu bo : Int32) (b : Nat) : Prop := bestSet (fun s => sm (M 64) s k) (fun s => sm (M 65) s k) (okS M k bu bo) (2 ^ k) b
theorem sm_0 (f : Nat → Int32) : ∀ k, sm f 0 k = 0
  | 0 => rfl
  | k + 1 => by rw [sm, sm_0 f k]; simp
theorem rowT_0 (M : px_M) (k : Nat) {r : Nat → Int32} (h : ∀ t, t < 5 → r t = 0) : rowT M k 0 r := by
  refine ⟨?_, ?_, ?_, ?_, ?_⟩ <;> (first | rw [h 0 (by decide)] | rw [h 1 (by decide)] | rw [h 2 (by decide)] | rw [h 3 (by decide)] | rw [h 4 (by decide)]) <;> first | rfl | rw [sm_0]
theorem rowT_flip {M : px_M} {k s j : Nat} {r r2 : Nat → Int32} (hs : s < 4096) (hk : k ≤ 12) (hj : j < k) (h : rowT M k s r)
    (h0 : r2 0 = r 0 ^^^ (1 <<< (nI j &&& 31))) (h1 : r2 1 = r 1 + (if ((r 0 ^^^ (1 <<< (nI j &&& 31))) >>> (nI j &&& 31)) &&& 1 = 1 then 1 else -1) * M 64 j) (h2 : r2 2 = r 2 + (if ((r 0 ^^^ (1 <<< (nI j &&& 31))) >>> (nI j &&& 31)) &&& 1 = 1 then 1 else -1) * M 65 j)
    (h3 : r2 3 = r 3 + (if ((r 0 ^^^ (1 <<< (nI j &&& 31))) >>> (nI j &&& 31)) &&& 1 = 1 then 1 else -1) * M 64 j * M 62 j) (h4 : r2 4 = r 4 + (if ((r 0 ^^^ (1 <<< (nI j &&& 31))) >>> (nI j &&& 31)) &&& 1 = 1 then 1 else -1) * M 64 j * M 63 j) : rowT M k (s ^^^ 2 ^ j) r2 := by
  obtain ⟨e0, e1, e2, e3, e4⟩ := h
  have hp : 2 ^ j < 2 ^ 12 := Nat.pow_lt_pow_right (by decide) (by omega)
  have hx : s ^^^ 2 ^ j < 2 ^ 12 := Nat.xor_lt_two_pow (n := 12) hs hp
  have hb : ((nI (s ^^^ 2 ^ j) >>> (nI j &&& 31)) &&& 1 = 1) ↔ s.testBit j = false := by
    rw [bit_iff (by omega) (by omega), Nat.testBit_xor, Nat.testBit_two_pow_self]
    simp
  rw [e0, shl1 j (by omega), xorI] at h0 h1 h2 h3 h4
  simp only [hb] at h1 h2 h3 h4
  refine ⟨h0, ?_, ?_, ?_, ?_⟩
  · rw [h1, e1, sm_flip, if_pos hj]; cases s.testBit j <;> simp <;> grind
  · rw [h2, e2, sm_flip, if_pos hj]; cases s.testBit j <;> simp <;> grind
  · rw [h3, e3, sm_flip, if_pos hj]; cases s.testBit j <;> simp <;> grind
  · rw [h4, e4, sm_flip, if_pos hj]; cases s.testBit j <;> simp <;> grind
theorem rowT_M {M M2 : px_M} {k s : Nat} {r : Nat → Int32} (h : ∀ b, b ≠ 66 → b ≠ 67 → M2 b = M b) (q : rowT M k s r) : rowT M2 k s r := by
  unfold rowT
  rw [h 64 (by decide) (by decide), h 65 (by decide) (by decide), h 62 (by decide) (by decide), h 63 (by decide) (by decide)]
  exact q
theorem l_X0_findBest_2 {d : Nat} {X : Nat × (Nat → Int32)} {sh : px_Sh} {M : px_M} {L : px_L} {R : px_R} {n : Nat} {QF : px_F} (hS : SR sh R) (bu bo : Int32) (hk : ∀ M2 : px_M, (∀ b, b ≠ 66 → b ≠ 67 → M2 b = M b) → (∀ t, t < 5 → M2 66 t = 0 ∧ M2 67 t = 0) → WX RX0 cX0_findBest 5 none ("findBest", []) d 0 0 X QF 31 [(0, .ref 61), (1, .int bu), (2, .int bo)] [] sh M2 L R n 0 0) :
    ∀ (m j : Nat) (M1 : px_M), j + m = 5 → (∀ b, b ≠ 66 → b ≠ 67 → M1 b = M b) → (∀ t, t < j → M1 66 t = 0 ∧ M1 67 t = 0) → WX RX0 cX0_findBest 5 none ("findBest", []) d 0 0 X QF 2 [(3, .int (nI j)), (0, .ref 61), (1, .int bu), (2, .int bo)] [] sh M1 L R n 0 0 := by
  intro m
  induction m with
  | zero =>
    intro j M1 hj hF hZ
    have e : j = 5 := by omega
    subst e
    refine wx_iload_n dX0_findBest_2 rfl ?_
    refine wx_aload_n dX0_findBest_3 rfl ?_
    refine wx_getR dX0_findBest_4 fl_X0_22 (sc_61 hS) rfl (rr_61_5 hS) ?_
    refine wx_alen dX0_findBest_7 (sc_66 hS) (by decide) (by decide) ?_
    refine wx_icmp_ge (tgt := 31) dX0_findBest_8 (by decide) (fun _ => ?_) (fun c_8 => absurd (nI_le (Nat.le_refl 5) (by decide)) c_8)
    exact wx_lv (hk M1 hF hZ) (by simp)
  | succ m ih =>
    intro j M1 hj hF hZ
    refine wx_iload_n dX0_findBest_2 rfl ?_
    refine wx_aload_n dX0_findBest_3 rfl ?_
    refine wx_getR dX0_findBest_4 fl_X0_22 (sc_61 hS) rfl (rr_61_5 hS) ?_
    refine wx_alen dX0_findBest_7 (sc_66 hS) (by decide) (by decide) ?_
    refine wx_icmp_ge (tgt := 31) dX0_findBest_8 (by decide) (fun c_8 => absurd c_8 (nI_ge (by omega) (by decide))) (fun _ => ?_)
    refine wx_aload_n dX0_findBest_11 rfl ?_
    refine wx_getR dX0_findBest_12 fl_X0_22 (sc_61 hS) rfl (rr_61_5 hS) ?_
    refine wx_iload_n dX0_findBest_15 rfl ?_
    refine wx_iconst (v := 0) dX0_findBest_16 (by decide) ?_
    refine wx_iastk (k := j) dX0_findBest_17 (sc_66 hS) rfl (by omega) (by decide) ?_
    refine wx_aload_n dX0_findBest_18 rfl ?_
    refine wx_getR dX0_findBest_19 fl_X0_25 (sc_61 hS) rfl (rr_61_6 hS) ?_
    refine wx_iload_n dX0_findBest_22 rfl ?_
    refine wx_iconst (v := 0) dX0_findBest_23 (by decide) ?_
    refine wx_iastk (k := j) dX0_findBest_24 (sc_67 hS) rfl (by omega) (by decide) ?_
    refine wx_iinc (v := nI (j + 1)) (lv' := [(3, _), (0, _), (1, _), (2, _)]) dX0_findBest_25 rfl (nI_inc _) (by decide) rfl ?_
    refine wx_goto (tgt := 2) dX0_findBest_28 (by decide) ?_
    refine ih (j + 1) _ (by omega) (fun b h1 h2 => by rw [px_u_ne _ _ _ h2, px_u_ne _ _ _ h1]; exact hF b h1 h2) (fun t ht => ?_)
    by_cases e : t = j
    · subst e; exact ⟨by rw [px_u_ne _ _ _ (by decide), px_u_in], by rw [px_u_in]⟩
    · have h9 := hZ t (by omega)
      exact ⟨by rw [px_u_ne _ _ _ (by decide), px_u_nj _ _ e]; exact h9.1, by rw [px_u_nj _ _ e, px_u_nj _ _ e]; exact h9.2⟩
set_option maxHeartbeats 4000000 in
theorem l_X0_findBest_33 {d : Nat} {X : Nat × (Nat → Int32)} {sh : px_Sh} {M : px_M} {L : px_L} {R : px_R} {n : Nat} (hd : 3 ≤ d) (hS : SR sh R) {k : Nat} (hk : M 61 4 = nI k) (hk2 : k ≤ 12) (bu bo : Int32) :
    ∀ (m j : Nat) (M1 : px_M), j + m = 2 ^ k → 1 ≤ j → (∀ b, b ≠ 66 → b ≠ 67 → M1 b = M b) → rowT M k (gr (j - 1)) (M1 67) → (∃ b, b < 2 ^ k ∧ (b = 0 ∨ okS M k bu bo b) ∧ rowT M k b (M1 66) ∧ ∀ t, t < j → (gr t = 0 ∨ okS M k bu bo (gr t)) → ¬ ahead (fun s => sm (M 64) s k) (fun s => sm (M 65) s k) (gr t) b) → WX RX0 cX0_findBest 5 none ("findBest", []) d 0 0 X (px_QF (px_vm (fun M' => (∀ b, b ≠ 66 → b ≠ 67 → M' b = M b) ∧ ∃ b, bestC M k bu bo b ∧ rowT M k b (M' 66)) sh L R n) 0 0) 33 [(3, .int (nI j)), (0, .ref 61), (1, .int bu), (2, .int bo)] [] sh M1 L R n 0 0 := by
  have hp12 : 2 ^ k ≤ 2 ^ 12 := Nat.pow_le_pow_right (by decide) hk2
  intro m
  induction m with
  | zero =>
    intro j M1 hj h1 hF hT hB
    have e : j = 2 ^ k := by omega
    subst e
    have hk1 : M1 61 4 = nI k := by rw [hF 61 (by decide) (by decide)]; exact hk
    refine wx_iload_n dX0_findBest_33 rfl ?_
    refine wx_iconst (v := 1) dX0_findBest_34 (by decide) ?_
    refine wx_aload_n dX0_findBest_35 rfl ?_
    refine wx_getI dX0_findBest_36 fl_X0_28 (sc_61 hS) rfl ?_
    refine wx_ishl dX0_findBest_39 ?_
    refine wx_icmp_ge (tgt := 130) dX0_findBest_40 (by decide) (fun _ => ?_) (fun c_40 => absurd (by rw [hk1, shl1 k (by omega)]; exact nI_le (Nat.le_refl _) (by omega)) c_40)
    refine wx_vret dX0_findBest_130 (Nat.zero_le _) (Nat.zero_le _) ?_
    obtain ⟨b, b1, b2, b3, b4⟩ := hB
    refine ⟨rfl, rfl, rfl, rfl, rfl, hF, b, ⟨b1, b2, fun s hs hok => ?_⟩, b3⟩
    have hi := gi_lt hs
    have hg := gr_inv (s := s) (by omega)
    have := b4 (gi s) hi
    rw [hg] at this
    exact this hok
  | succ m ih =>
    intro j M1 hj h1 hF hT hB
    have hk1 : M1 61 4 = nI k := by rw [hF 61 (by decide) (by decide)]; exact hk
    have hjk : j < 2 ^ k := by omega
    obtain ⟨g1, g2, g3, g4⟩ := gr_step (i := j) (by omega) (by omega)
    have htk : tz j < k := (Nat.pow_lt_pow_iff_right (a := 2) (by decide)).mp (Nat.lt_of_le_of_lt g4 hjk)
    have hgl : gr (j - 1) < 4096 := Nat.lt_of_lt_of_le (gr_lt (k := k) (by omega)) (by omega)
    have hgj : gr j < 4096 := Nat.lt_of_lt_of_le (gr_lt (k := k) hjk) (by omega)
    obtain ⟨b, b1, b2, b3, b4⟩ := hB
    sorry
  
