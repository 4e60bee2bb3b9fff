/-! safe: the creases of the first order -/
noncomputable def goodC (n : Nat) (P : Nat → Nat) (s c : Nat) : Bool := mayO n P s c && decide (0 < Nn n P (s ||| 2 ^ c))
def FS (n : Nat) (P : Nat → Nat) (s c : Nat) : Prop := c < n - 1 ∧ goodC n P s c = true ∧ ∀ d, d < c → ¬ goodC n P s d = true
theorem fld_pos (g : Nat → Nat) : ∀ (m i a : Nat), a < fld (fun c a => a + g c) i m a → ∃ c, i ≤ c ∧ c < i + m ∧ 0 < g c
  | 0, i, a, h => absurd h (Nat.lt_irrefl _)
  | m + 1, i, a, h => by
    by_cases q : 0 < g i
    · exact ⟨i, Nat.le_refl _, by omega, q⟩
    · have : a + g i = a := by omega
      unfold fld at h
      rw [this] at h
      obtain ⟨c, c1, c2, c3⟩ := fld_pos g m (i + 1) a h
      exact ⟨c, by omega, by omega, c3⟩
theorem least_of {p : Nat → Prop} : ∀ c, p c → ∃ c, p c ∧ ∀ d, d < c → ¬ p d := by
  intro c
  induction c using Nat.strongRecOn with
  | ind c ih =>
    intro h
    by_cases q : ∃ d, d < c ∧ p d
    · obtain ⟨d, d1, d2⟩ := q
      exact ih d d1 d2
    · exact ⟨c, h, fun d hd hp => q ⟨d, hd, hp⟩⟩
theorem FS_ex {n : Nat} {P : Nat → Nat} {s : Nat} (h : shm s (n - 1) ≠ 0) (hN : 0 < Nn n P s) : ∃ c, FS n P s c := by
  rw [Nn_sum h] at hN
  obtain ⟨c, -, c2, c3⟩ := fld_pos (fun c => if mayO n P s c = true then Nn n P (s ||| 2 ^ c) else 0) (n - 1) 0 0 hN
  have hg : goodC n P s c = true := by
    unfold goodC
    by_cases q : mayO n P s c = true
    · simp only [q, if_true] at c3
      rw [q, decide_eq_true c3]; rfl
    · simp only [q] at c3
      exact absurd c3 (by simp)
  obtain ⟨d, ⟨d1, d2⟩, d3⟩ := least_of (p := fun c => c < n - 1 ∧ goodC n P s c = true) c ⟨by omega, hg⟩
  exact ⟨d, d1, d2, fun e he q => d3 e he ⟨by omega, q⟩⟩
noncomputable def fsC (n : Nat) (P : Nat → Nat) (s : Nat) : Nat := @dite _ (∃ c, FS n P s c) (Classical.propDecidable _) (fun h => h.choose) (fun _ => 0)
theorem fsC_of {n : Nat} {P : Nat → Nat} {s : Nat} (h : ∃ c, FS n P s c) : FS n P s (fsC n P s) := by
  unfold fsC
  rw [dif_pos h]
  exact h.choose_spec
noncomputable def sqF (n : Nat) (P : Nat → Nat) (o : Nat) : Nat → Nat
  | 0 => o
  | i + 1 => sqF n P o i ||| 2 ^ fsC n P (sqF n P o i)
theorem good_may {n : Nat} {P : Nat → Nat} {s c : Nat} (h : goodC n P s c = true) : mayO n P s c = true ∧ 0 < Nn n P (s ||| 2 ^ c) := by
  unfold goodC at h
  rw [Bool.and_eq_true] at h
  exact ⟨h.1, of_decide_eq_true h.2⟩
theorem and_or {s o c : Nat} (q : s &&& o = o) : (s ||| 2 ^ c) &&& o = o := by
  apply Nat.eq_of_testBit_eq
  intro i
  have h3 := congrArg (fun x => x.testBit i) q
  simp only [Nat.testBit_and] at h3 ⊢
  rw [tb_or]
  cases h4 : o.testBit i
  · simp
  · rw [h4] at h3
    simp at h3
    simp [h3]
theorem sq_inv {n : Nat} {P : Nat → Nat} {o : Nat} (ho : o < 2 ^ (n - 1)) (hN : 0 < Nn n P o) : ∀ i, i ≤ shm o (n - 1) → (0 < Nn n P (sqF n P o i) ∧ shm (sqF n P o i) (n - 1) + i = shm o (n - 1) ∧ sqF n P o i < 2 ^ (n - 1) ∧ sqF n P o i &&& o = o ∧ o ≤ sqF n P o i) ∧ (i < shm o (n - 1) → FS n P (sqF n P o i) (fsC n P (sqF n P o i)))
  | 0, _ => by
    refine ⟨⟨hN, rfl, ho, Nat.and_self o, Nat.le_refl _⟩, fun h => fsC_of (FS_ex (by show shm o (n - 1) ≠ 0; omega) hN)⟩
  | i + 1, hi => by
    obtain ⟨⟨h1, h2, h3, h4, h5⟩, h6⟩ := sq_inv ho hN i (by omega)
    obtain ⟨f1, f2, f3⟩ := h6 (by omega)
    obtain ⟨g1, g2⟩ := good_may f2
    have h7 := shm_or (mayO_f g1) (n - 1)
    rw [if_pos f1] at h7
    have hN2 : 0 < Nn n P (sqF n P o (i + 1)) := g2
    have hs2 : shm (sqF n P o (i + 1)) (n - 1) + (i + 1) = shm o (n - 1) := by
      show shm (sqF n P o i ||| 2 ^ fsC n P (sqF n P o i)) (n - 1) + (i + 1) = _
      omega
    refine ⟨⟨hN2, hs2, or_lt h3 f1, and_or h4, Nat.le_trans h5 Nat.left_le_or⟩, fun h => fsC_of (FS_ex (by omega) hN2)⟩
set_option maxRecDepth 100000 in
theorem bc0 : (List.range 9).all (fun n => decide (n < 2) || (List.range (2 ^ (n - 1))).all (fun o => decide (f_J6_bitCount_0f7a4 (nI o) = some (nI (n - 1 - shm o (n - 1)))))) = true := by decide +kernel
theorem bc_of {n o : Nat} (h1 : 2 ≤ n) (h2 : n ≤ 8) (ho : o < 2 ^ (n - 1)) : f_J6_bitCount_0f7a4 (nI o) = some (nI (n - 1 - shm o (n - 1))) := by
  have h := List.all_eq_true.mp bc0 n (List.mem_range.mpr (by omega))
  rw [Bool.or_eq_true] at h
  rcases h with h | h
  · have := of_decide_eq_true h
    omega
  · exact of_decide_eq_true (List.all_eq_true.mp h o (List.mem_range.mpr ho))
section SAFE
variable {M : px_M} {n : Nat} {P : Nat → Nat}
theorem c_firstSafe {M0 : px_M} (hn : M0 1 0 = nI n) (hn2 : 2 ≤ n) (hn8 : n ≤ 8) (hP : ∀ p, p < n → M0 3 p = nI (P p)) (hb : ∀ p, p < n → P p < 8) {o : Nat} (hW : WaysI M0 M n o o P) {s : Nat} (hs : s < 2 ^ (n - 1)) (hso : s &&& o = o) (hos : o ≤ s) {c : Nat} (hF : FS n P s c) : f_X2_firstSafe M (nI s) = some (nI c) := by
  have hpw : 2 ^ (n - 1) ≤ 2 ^ 7 := Nat.pow_le_pow_right (by decide) (by omega)
  have h128 : (2 : Nat) ^ 7 = 128 := by decide
  obtain ⟨w1, w2⟩ := hW
  obtain ⟨f1, f2, f3⟩ := hF
  have e0 : M 1 0 = nI n := by rw [w1 1 0 (by decide)]; exact hn
  have hP1 : ∀ p, p < n → M 3 p = nI (P p) := fun p hp => by rw [w1 3 p (by decide)]; exact hP p hp
  have hbody : ∀ d, d < n - 2 → f_X2_firstSafe_2 M (nI s) (nI d) = if goodC n P s d = true then some (.inr (nI d)) else some (.inl (nI (d + 1))) := by
    intro d hd
    unfold f_X2_firstSafe_2 f_X2_firstSafe_34 goodC
    rw [e0, show nI n - 2 = nI (n - 2) from pk_sub (b := 2) hn2, if_neg (nI_ge hd (by omega)), c_mayOpen e0 hn8 hP1 hb (by omega) (by omega), bd1_e, ifi b2_0, nI_1]
    by_cases q : mayO n P s d = true
    · have hsd := or_lt hs (show d < n - 1 by omega)
      have hN := Nn_lt hn8 (P := P) (s ||| 2 ^ d)
      rw [if_neg (by rw [q]; decide), nm_u, shl1 d (by omega), orI, ok_t (ix_k (show s ||| 2 ^ d < 128 by omega) (by decide)), nI_clamp (by omega), w2 _ (Nat.le_trans hos Nat.left_le_or) hsd (and_or hso), q, show (0 : Int32) = nI 0 from rfl, ifi (nI_ltI (by decide) (by omega))]
      by_cases q2 : 0 < Nn n P (s ||| 2 ^ d)
      · rw [if_pos q2, decide_eq_true q2]; rfl
      · rw [if_neg q2, decide_eq_false q2]; rfl
    · rw [if_pos (Bool.eq_false_iff.mpr q), Bool.eq_false_iff.mpr q]; rfl
  have hgo : ∀ (m d : Nat), d + m = c → lpf (fun a : Int32 => f_X2_firstSafe_2 M (nI s) a) (nI d) = some (nI c) := by
    intro m
    induction m with
    | zero =>
      intro d hd
      obtain rfl : d = c := by omega
      apply lpf_end
      by_cases e : d < n - 2
      · rw [hbody d e, if_pos f2]
      · unfold f_X2_firstSafe_2
        rw [e0, show nI n - 2 = nI (n - 2) from pk_sub (b := 2) hn2, if_pos (nI_le (by omega) (by omega))]
    | succ m ih =>
      intro d hd
      rw [lpf_go (show (fun a : Int32 => f_X2_firstSafe_2 M (nI s) a) (nI d) = _ from (hbody d (by omega)).trans (if_neg (f3 d (by omega))))]
      exact ih (d + 1) (by omega)
  unfold f_X2_firstSafe
  rw [show lpf (fun a : Int32 => f_X2_firstSafe_2 M (nI s) a) 0 = _ from hgo c 0 (by omega)]
  rfl
theorem c_safe (hn : M 1 0 = nI n) (hn2 : 2 ≤ n) (hn8 : n ≤ 8) {o : Nat} (ho : M 1 2 = nI o) (ho2 : o < 2 ^ (n - 1)) (hP : ∀ p, p < n → M 3 p = nI (P p)) (hb : ∀ p, p < n → P p < 8) (p1 : Int32) :
    ∃ M', f_X2_creaseOfFirstOrder M p1 = some ((if 0 < Nn n P o ∧ ¬ p1 < 0 ∧ p1 < nI (shm o (n - 1)) then nI (fsC n P (sqF n P o p1.toNatClampNeg)) else -1), M') ∧ ∀ a j, a ≠ 5 → M' a j = M a j := by
  have hsl := shm_le o (n - 1)
  unfold f_X2_creaseOfFirstOrder f_X2_creaseOfFirstOrder_31
  rw [ho, bc_of hn2 hn8 ho2, bd1_e, nm_u, hn, show nI n - 1 = nI (n - 1) from pk_sub (b := 1) (by omega), pk_sub (by omega), show n - 1 - (n - 1 - shm o (n - 1)) = shm o (n - 1) by omega]
  by_cases q1 : p1 < 0
  · rw [if_pos q1, if_neg (fun x => x.2.1 q1)]
    exact ⟨M, rfl, fun _ _ _ => rfl⟩
  · rw [if_neg q1]
    by_cases q2 : nI (shm o (n - 1)) ≤ p1
    · rw [if_pos q2, if_neg (fun x => Int32.not_lt.mpr q2 x.2.2)]
      exact ⟨M, rfl, fun _ _ _ => rfl⟩
    · rw [if_neg q2]
      obtain ⟨M1, c1, hW⟩ := c_countOrders (M := M) (P := P) hn hn2 hn8 ho ho2 hP hb
      have hN := Nn_lt hn8 (P := P) o
      rw [c1, bd1_e]
      dsimp only
      rw [show (0 : Int32) = nI 0 from rfl, ifi (nI_eq (by omega) (by decide))]
      by_cases q3 : Nn n P o = 0
      · rw [if_pos q3, if_neg (fun x => absurd x.1 (by omega))]
        exact ⟨M1, rfl, hW.1⟩
      · rw [if_neg q3, nm_u, hW.1 1 2 (by decide), ho]
        obtain ⟨k, hk, rfl⟩ := nI_of q1
        have hks : k < shm o (n - 1) := (nI_ltI hk (by omega)).mp (Int32.not_le.mp q2)
        rw [if_pos ⟨by omega, q1, Int32.not_le.mp q2⟩, nI_clamp hk]
        have hsq := sq_inv (n := n) (P := P) ho2 (by omega)
        have hgo : ∀ (m i : Nat) (z : Int32), i + m = k + 1 → (i = k + 1 → z = nI (fsC n P (sqF n P o k))) → lpf (fun a : Int32 × Int32 × Int32 => f_X2_creaseOfFirstOrder_44 M1 (nI k) a.1 a.2.1 a.2.2) (nI (sqF n P o i), z, nI i) = some (nI (fsC n P (sqF n P o k))) := by
          intro m
          induction m with
          | zero =>
            intro i z hi hz
            obtain rfl : i = k + 1 := by omega
            apply lpf_end
            show f_X2_creaseOfFirstOrder_44 M1 (nI k) _ z (nI (k + 1)) = _
            unfold f_X2_creaseOfFirstOrder_44
            rw [if_pos (nI_lt (by omega) (by omega)), hz rfl]
          | succ m ih =>
            intro i z hi hz
            obtain ⟨⟨s1, s2, s3, s4, s5⟩, s6⟩ := hsq i (by omega)
            have hFS := s6 (by omega)
            have hb1 : f_X2_creaseOfFirstOrder_44 M1 (nI k) (nI (sqF n P o i)) z (nI i) = some (.inl (nI (sqF n P o (i + 1)), nI (fsC n P (sqF n P o i)), nI (i + 1))) := by
              unfold f_X2_creaseOfFirstOrder_44
              rw [if_neg (nI_nlt (by omega) (by omega)), c_firstSafe hn hn2 hn8 hP hb hW s3 s4 s5 hFS, bd1_e, nm_u, shl1 _ (by have := hFS.1; omega), orI, nI_1]
              rfl
            rw [lpf_go (body := fun a : Int32 × Int32 × Int32 => f_X2_creaseOfFirstOrder_44 M1 (nI k) a.1 a.2.1 a.2.2) (a := (nI (sqF n P o i), z, nI i)) (a' := (nI (sqF n P o (i + 1)), nI (fsC n P (sqF n P o i)), nI (i + 1))) hb1]
            exact ih (i + 1) _ (by omega) (fun e => by rw [show i = k by omega])
        rw [show lpf (fun a : Int32 × Int32 × Int32 => f_X2_creaseOfFirstOrder_44 M1 (nI k) a.1 a.2.1 a.2.2) (nI o, -1, nI 0) = _ from hgo (k + 1) 0 (-1) (by omega) (fun e => by omega), bd1_e]
        exact ⟨M1, rfl, hW.1⟩
/-! the reference's -/
theorem m_leads (hn2 : 2 ≤ n) (hn8 : n ≤ 8) {row : List Nat} (hF : Full n row) {s c : Nat} (hs : s < 2 ^ (n - 1)) (hc : c + 1 < n) (e1 : M 73 1 = nI n) (e74 : ∀ j, j < n → M 74 j = nI (row.getD j 0)) (e78 : ∀ i, i < 8 → M 78 i = b2 (s.testBit i)) :
    ∃ M', f_X12_leads M (nI c) = some (b2 (goodC n (fun p => row.idxOf p) s c), M') ∧ ∀ a j, a ≠ 75 → M' a j = M a j := by
  obtain ⟨P, hPd⟩ : ∃ P, P = fun p => row.idxOf p := ⟨_, rfl⟩
  rw [← hPd]
  unfold f_X12_leads f_X12_leads_17 f_X12_leads_39 goodC mayO
  rw [ok_t (ix_k (show c < 8 by omega) (by decide)), nI_clamp (by omega), e78 c (by omega), ifi b2_0]
  by_cases q : s.testBit c = true
  · rw [if_neg (by rw [q]; decide), q]
    exact ⟨M, rfl, fun _ _ _ => rfl⟩
  · have q0 := Bool.eq_false_iff.mpr q
    rw [if_pos q0, q0]
    obtain ⟨M2, c1, c2⟩ := m_isClear (M := M) e1 hn8 hF e74 (s := s) (c := c) e78 hc
    rw [← hPd] at c1
    rw [c1, bd1_e]
    dsimp only
    rw [ifi b2_0]
    by_cases q2 : clrB n P s c = true
    · have hso := shm_or q0 (n - 1)
      rw [if_pos (show c < n - 1 by omega)] at hso
      have hsl := shm_le s (n - 1)
      obtain ⟨M3, r1, r2⟩ := m_countOrders hn2 hn8 hF (shm (s ||| 2 ^ c) (n - 1)) 10 (s ||| 2 ^ c) 0 (px_u M2 78 c 1) (by omega) (or_lt hs (by omega)) rfl (by rw [pu_n (by omega), c2 73 1 (by decide)]; exact e1) (fun j hj => by rw [pu_n (by omega), c2 74 j (by decide)]; exact e74 j hj) (fun i hi => by
        rw [tb_or]
        by_cases e : i = c
        · subst e; rw [px_u_in]; simp; rfl
        · rw [pu_n (by omega), c2 78 i (by decide), e78 i hi]; simp [show ¬ c = i from fun x => e x.symm])
      rw [← hPd] at r1
      have hN := Nn_lt hn8 (P := P) (s ||| 2 ^ c)
      rw [if_neg (by rw [q2]; decide), ok_t (ix_k (show c < 8 by omega) (by decide)), nm_u, show f_X12_countOrders (px_u M2 78 c 1) 0 = _ from r1, bd1_e, q2]
      dsimp only
      have hM3 : ∀ a j, a ≠ 75 → (px_u M3 78 c 0) a j = M a j := by
        intro a j ha
        by_cases e : a = 78 ∧ j = c
        · rw [e.1, e.2, px_u_in, e78 c (by omega), q0]; rfl
        · rw [pu_n e, r2 a j ha, pu_n e]; exact c2 a j ha
      rw [ifi (show nI (Nn n P (s ||| 2 ^ c)) ≤ 0 ↔ Nn n P (s ||| 2 ^ c) ≤ 0 from nI_leI (b := 0) (by omega) (by decide)), ok_t (ix_k (show c < 8 by omega) (by decide)), ok_t (ix_k (show c < 8 by omega) (by decide)), nm_u, nm_u, ok_t zb0, ok_t zb1]
      by_cases q3 : Nn n P (s ||| 2 ^ c) ≤ 0
      · rw [if_pos q3, decide_eq_false (show ¬ 0 < Nn n P (s ||| 2 ^ c) by omega)]
        exact ⟨_, rfl, hM3⟩
      · rw [if_neg q3, decide_eq_true (show 0 < Nn n P (s ||| 2 ^ c) by omega)]
        exact ⟨_, rfl, hM3⟩
    · rw [if_pos (Bool.eq_false_iff.mpr q2), Bool.eq_false_iff.mpr q2]
      exact ⟨M2, rfl, c2⟩
end SAFE
