/-! orders: from each set of open creases on, in how many orders the others open -/
/-- the creases below m that are shut -/
def shm (s : Nat) : Nat → Nat
  | 0 => 0
  | m + 1 => shm s m + if s.testBit m = true then 0 else 1
theorem shm_le (s : Nat) : ∀ m, shm s m ≤ m
  | 0 => Nat.le_refl _
  | m + 1 => by
    have := shm_le s m
    unfold shm
    split <;> omega
theorem shm_or {s c : Nat} (hc : s.testBit c = false) : ∀ m, shm (s ||| 2 ^ c) m + (if c < m then 1 else 0) = shm s m
  | 0 => by simp [shm]
  | m + 1 => by
    have ih := shm_or hc m
    unfold shm
    rw [tb_or]
    by_cases e : c = m
    · subst e
      rw [if_neg (by omega)] at ih
      rw [hc]
      simp
      omega
    · by_cases h : c < m
      · rw [if_pos h] at ih
        rw [if_pos (show c < m + 1 by omega), show decide (c = m) = false from decide_eq_false e, Bool.or_false]
        omega
      · rw [if_neg h] at ih
        rw [if_neg (show ¬ c < m + 1 by omega), show decide (c = m) = false from decide_eq_false e, Bool.or_false]
        omega
theorem shm_0 {s m : Nat} (hs : s < 2 ^ m) : shm s m = 0 ↔ s = 2 ^ m - 1 := by
  have h : ∀ k, shm s k = 0 ↔ ∀ i, i < k → s.testBit i = true := by
    intro k
    induction k with
    | zero => simp [shm]
    | succ k ih =>
      unfold shm
      constructor
      · intro q i hi
        by_cases e : i = k
        · subst e
          apply Decidable.byContradiction
          intro x
          rw [if_neg x] at q
          omega
        · exact ih.mp (by omega) i (by omega)
      · intro q
        rw [if_pos (q k (by omega)), ih.mpr fun i hi => q i (by omega)]
  rw [h]
  constructor
  · intro q
    apply Nat.eq_of_testBit_eq
    intro i
    rw [Nat.testBit_two_pow_sub_one]
    by_cases e : i < m
    · rw [q i e]; simp [e]
    · rw [Nat.testBit_lt_two_pow (Nat.lt_of_lt_of_le hs (Nat.pow_le_pow_right (by decide) (by omega)))]; simp [e]
  · rintro rfl i hi
    rw [Nat.testBit_two_pow_sub_one]; simp [hi]
noncomputable def mayO (n : Nat) (P : Nat → Nat) (s c : Nat) : Bool := !s.testBit c && clrB n P s c
noncomputable def cnt (n : Nat) (P : Nat → Nat) : Nat → Nat → Nat
  | 0, _ => 1
  | k + 1, s => fld (fun c a => a + if mayO n P s c = true then cnt n P k (s ||| 2 ^ c) else 0) 0 (n - 1) 0
noncomputable def Nn (n : Nat) (P : Nat → Nat) (s : Nat) : Nat := cnt n P (shm s (n - 1)) s
theorem Nn_all {n : Nat} {P : Nat → Nat} {s : Nat} (h : shm s (n - 1) = 0) : Nn n P s = 1 := by unfold Nn; rw [h]; rfl
theorem mayO_f {n : Nat} {P : Nat → Nat} {s c : Nat} (h : mayO n P s c = true) : s.testBit c = false := by
  unfold mayO at h
  rw [Bool.and_eq_true] at h
  simpa using h.1
theorem Nn_sum {n : Nat} {P : Nat → Nat} {s : Nat} (h : shm s (n - 1) ≠ 0) : Nn n P s = fld (fun c a => a + if mayO n P s c = true then Nn n P (s ||| 2 ^ c) else 0) 0 (n - 1) 0 := by
  obtain ⟨k, hk⟩ : ∃ k, shm s (n - 1) = k + 1 := ⟨shm s (n - 1) - 1, by omega⟩
  unfold Nn
  rw [hk]
  show fld _ 0 (n - 1) 0 = _
  refine fld_congr _ _ _ fun c _ hc a => ?_
  by_cases q : mayO n P s c = true
  · have := shm_or (mayO_f q) (n - 1)
    rw [if_pos (show c < n - 1 by omega)] at this
    simp only [q, if_true]
    rw [show shm (s ||| 2 ^ c) (n - 1) = k by omega]
  · rw [if_neg q, if_neg q]
theorem fld_le (g : Nat → Nat) (B : Nat) (h : ∀ c, g c ≤ B) : ∀ (m i a : Nat), fld (fun c a => a + g c) i m a ≤ a + m * B
  | 0, i, a => by simp [fld]
  | m + 1, i, a => by
    have h1 := fld_le g B h m (i + 1) (a + g i)
    have h2 := h i
    unfold fld
    rw [Nat.succ_mul]
    omega
theorem cnt_le {n : Nat} (hn : n ≤ 8) {P : Nat → Nat} : ∀ k s, cnt n P k s ≤ 7 ^ k
  | 0, s => Nat.le_refl _
  | k + 1, s => by
    unfold cnt
    have h1 := fld_le (fun c => if mayO n P s c = true then cnt n P k (s ||| 2 ^ c) else 0) (7 ^ k) (fun c => by
      split
      · exact cnt_le hn k _
      · exact Nat.zero_le _) (n - 1) 0 0
    have h2 : (n - 1) * 7 ^ k ≤ 7 * 7 ^ k := Nat.mul_le_mul_right _ (by omega)
    rw [Nat.pow_succ, Nat.mul_comm]
    omega
theorem Nn_lt {n : Nat} (hn : n ≤ 8) {P : Nat → Nat} (s : Nat) : Nn n P s < 2 ^ 30 := by
  unfold Nn
  have h1 := cnt_le hn (P := P) (shm s (n - 1)) s
  have h2 : 7 ^ shm s (n - 1) ≤ 7 ^ 7 := Nat.pow_le_pow_right (by decide) (by have := shm_le s (n - 1); omega)
  have h3 : (7 : Nat) ^ 7 = 823543 := by decide
  omega
section ORD
variable {M : px_M} {n : Nat} {P : Nat → Nat}
theorem c_mayOpen (hn : M 1 0 = nI n) (hn8 : n ≤ 8) (hP : ∀ p, p < n → M 3 p = nI (P p)) (hb : ∀ p, p < n → P p < 8) {s c : Nat} (hs : s < 2 ^ 31) (hc : c + 1 < n) : f_X2_mayOpen M (nI c) (nI s) = some (b2 (mayO n P s c)) := by
  unfold f_X2_mayOpen f_X2_mayOpen_22 f_X2_mayOpen_23 mayO
  rw [e_isOpen hs (by omega), bd1_e, c_isClear hn hn8 hP hb hs hc, bd1_e, ifi b2_0, ifi b2_0, ok_t zb0, ok_t zb1]
  cases s.testBit c <;> cases clrB n P s c <;> rfl
/-- the table of ways: right for all sets above i that hold the open creases o -/
def WaysI (M M' : px_M) (n o i : Nat) (P : Nat → Nat) : Prop := (∀ a j, a ≠ 5 → M' a j = M a j) ∧ ∀ t, i ≤ t → t < 2 ^ (n - 1) → t &&& o = o → M' 5 t = nI (Nn n P t)
theorem c_countOrders (hn : M 1 0 = nI n) (hn2 : 2 ≤ n) (hn8 : n ≤ 8) {o : Nat} (ho : M 1 2 = nI o) (ho2 : o < 2 ^ (n - 1)) (hP : ∀ p, p < n → M 3 p = nI (P p)) (hb : ∀ p, p < n → P p < 8) :
    ∃ M', f_X2_countOrders M = some (nI (Nn n P o), M') ∧ WaysI M M' n o o P := by
  have hpw : 2 ^ (n - 1) ≤ 2 ^ 7 := Nat.pow_le_pow_right (by decide) (by omega)
  have hp0 := Nat.two_pow_pos (n - 1)
  have h128 : (2 : Nat) ^ 7 = 128 := by decide
  obtain ⟨all, hall⟩ : ∃ all, all = 2 ^ (n - 1) - 1 := ⟨_, rfl⟩
  have hin : ∀ s M1, s < all → WaysI M M1 n o (s + 1) P → ∃ M2, f_X2_countOrders_22 M1 (nI s) = (if s < o then some (.inr M1) else some (.inl (nI s + -1, M2))) ∧ (o ≤ s → WaysI M M2 n o s P) := by
    intro s M1 hs hW
    obtain ⟨w1, w2⟩ := hW
    have e0 : M1 1 0 = nI n := by rw [w1 1 0 (by decide)]; exact hn
    have e2 : M1 1 2 = nI o := by rw [w1 1 2 (by decide)]; exact ho
    have hP1 : ∀ p, p < n → M1 3 p = nI (P p) := fun p hp => by rw [w1 3 p (by decide)]; exact hP p hp
    have K := lpf_for (body := fun a : Int32 × px_M => f_X2_countOrders_39 a.2 (nI s) a.1) (fun c (M' : px_M) => (nI c, M')) (fun c M' => if s &&& o = o then (if mayO n P s c = true then px_u M' 5 s (M' 5 s + nI (Nn n P (s ||| 2 ^ c))) else M') else M')
      (fun c M' => (∀ a j, ¬ (a = 5 ∧ j = s) → M' a j = M1 a j) ∧ (s &&& o = o → M' 5 s = nI (fld (fun c a => a + if mayO n P s c = true then Nn n P (s ||| 2 ^ c) else 0) 0 c 0))) (fun M' => M') (n - 1)
      (fun c M' hc hI => by
        obtain ⟨i1, i2⟩ := hI
        have f0 : M' 1 0 = nI n := by rw [i1 1 0 (by omega)]; exact e0
        have f2 : M' 1 2 = nI o := by rw [i1 1 2 (by omega)]; exact e2
        have hP2 : ∀ p, p < n → M' 3 p = nI (P p) := fun p hp => by rw [i1 3 p (by omega)]; exact hP1 p hp
        have hlast := fld_last (fun c a => a + if mayO n P s c = true then Nn n P (s ||| 2 ^ c) else 0) c 0 0
        rw [Nat.zero_add] at hlast
        by_cases q : s &&& o = o
        · by_cases q2 : mayO n P s c = true
          · have hsc : s ||| 2 ^ c < 2 ^ (n - 1) := or_lt (by omega) hc
            have hgt : s + 1 ≤ s ||| 2 ^ c := by
              have h1 : s ≤ s ||| 2 ^ c := Nat.left_le_or
              have h2 : s ≠ s ||| 2 ^ c := fun e => by
                have h3 := congrArg (fun x => x.testBit c) e
                simp only [tb_or, mayO_f q2] at h3
                simp at h3
              omega
            have hso : (s ||| 2 ^ c) &&& o = o := by
              apply Nat.eq_of_testBit_eq
              intro i
              have h3 := congrArg (fun x => x.testBit i) q
              simp only [Nat.testBit_and] at h3 ⊢
              rw [tb_or]
              cases h4 : o.testBit i
              · simp
              · rw [h4] at h3
                simp at h3
                simp [h3]
            have hw : M' 5 (s ||| 2 ^ c) = nI (Nn n P (s ||| 2 ^ c)) := by
              rw [i1 5 _ (by omega)]; exact w2 _ hgt hsc hso
            rw [if_pos q, if_pos q2]
            refine ⟨?_, fun a j hn => ?_, fun _ => ?_⟩
            · show f_X2_countOrders_39 M' (nI s) (nI c) = _
              unfold f_X2_countOrders_39 f_X2_countOrders_90
              rw [f0, show nI n - 1 = nI (n - 1) from pk_sub (b := 1) (by omega), if_neg (nI_ge hc (by omega)), f2, andI, q, if_pos rfl, c_mayOpen f0 hn8 hP2 hb (by omega) (by omega), bd1_e, q2, if_neg (show ¬ b2 true = 0 by decide), ok_t (ix_k (show s < 128 by omega) (by decide)), nm_u, shl1 c (by omega), orI, ok_t (ix_k (show s ||| 2 ^ c < 128 by omega) (by decide)), nI_clamp (by omega), nI_clamp (by omega), hw, nm_u, nm_u, ok_t (ix_k (show s < 128 by omega) (by decide)), nI_1]
            · rw [pu_n hn]; exact i1 a j hn
            · rw [px_u_in, i2 q, nI_add, hlast]
              rw [if_pos q2]
          · rw [if_pos q, if_neg q2]
            refine ⟨?_, i1, fun _ => ?_⟩
            · show f_X2_countOrders_39 M' (nI s) (nI c) = _
              unfold f_X2_countOrders_39 f_X2_countOrders_90
              rw [f0, show nI n - 1 = nI (n - 1) from pk_sub (b := 1) (by omega), if_neg (nI_ge hc (by omega)), f2, andI, q, if_pos rfl, c_mayOpen f0 hn8 hP2 hb (by omega) (by omega), bd1_e, Bool.eq_false_iff.mpr q2, if_pos (show b2 false = 0 from rfl), nI_1]
            · rw [i2 q, hlast]
              rw [if_neg q2, Nat.add_zero]
        · rw [if_neg q]
          refine ⟨?_, i1, fun x => absurd x q⟩
          show f_X2_countOrders_39 M' (nI s) (nI c) = _
          unfold f_X2_countOrders_39 f_X2_countOrders_90
          rw [f0, show nI n - 1 = nI (n - 1) from pk_sub (b := 1) (by omega), if_neg (nI_ge hc (by omega)), f2, andI, if_neg (nI_eq' (Nat.lt_of_le_of_lt Nat.and_le_left (by omega)) (by omega) q), nI_1])
      (fun M' hI => by
        show f_X2_countOrders_39 M' (nI s) (nI (n - 1)) = _
        unfold f_X2_countOrders_39
        rw [hI.1 1 0 (by omega), e0, show nI n - 1 = nI (n - 1) from pk_sub (b := 1) (by omega), if_pos (Int32.le_refl _)])
    have K2 := K (n - 1) 0 (px_u M1 5 s 0)
    have K3 : ∀ (h : _), _ := K2 (by omega)
    have hs0 : (∀ a j, ¬ (a = 5 ∧ j = s) → (px_u M1 5 s 0) a j = M1 a j) := fun a j hn => pu_n hn
    have hrun := K3 ⟨hs0, fun _ => by rw [px_u_in]; rfl⟩
    obtain ⟨r1, r2, r3⟩ := hrun
    refine ⟨fld (fun c M' => if s &&& o = o then (if mayO n P s c = true then px_u M' 5 s (M' 5 s + nI (Nn n P (s ||| 2 ^ c))) else M') else M') 0 (n - 1) (px_u M1 5 s 0), ?_, fun hos => ⟨fun a j ha => ?_, fun t t1 t2 t3 => ?_⟩⟩
    · unfold f_X2_countOrders_22
      rw [e2, ifi (nI_ltI (by omega) (by omega))]
      by_cases q : s < o
      · rw [if_pos q, if_pos q]
      · rw [if_neg q, if_neg q, ok_t (ix_k (show s < 128 by omega) (by decide)), nm_u, nI_clamp (by omega), show lpf (fun a : Int32 × px_M => f_X2_countOrders_39 a.2 (nI s) a.1) (0, px_u M1 5 s 0) = _ from r1, bd1_e]
    · rw [r2 a j (by omega)]; exact w1 a j ha
    · by_cases e : t = s
      · subst e
        have h0 : shm t (n - 1) ≠ 0 := fun x => by have := (shm_0 (by omega)).mp x; omega
        rw [r3 t3, Nn_sum h0]
      · rw [r2 5 t (by omega)]; exact w2 t (by omega) t2 t3
  have hloop : ∀ (m s : Nat) (M1 : px_M), s + 1 = m + o → s < all → WaysI M M1 n o (s + 1) P → ∃ M2, lpf (fun a : Int32 × px_M => f_X2_countOrders_22 a.2 a.1) (nI s, M1) = some M2 ∧ WaysI M M2 n o o P := by
    intro m
    induction m with
    | zero =>
      intro s M1 hs hsa hW
      obtain ⟨M2, r1, -⟩ := hin s M1 hsa hW
      refine ⟨M1, lpf_end (r1.trans (if_pos (by omega))), ?_⟩
      rw [show o = s + 1 by omega]
      rw [show s + 1 = o by omega] at hW ⊢
      exact hW
    | succ m ih =>
      intro s M1 hs hsa hW
      obtain ⟨M2, r1, r2⟩ := hin s M1 hsa hW
      by_cases e0 : s = 0
      · -- then o = 0 and the loop ends at -1
        subst e0
        have ho0 : o = 0 := by omega
        rw [lpf_go (show (fun a : Int32 × px_M => f_X2_countOrders_22 a.2 a.1) (nI 0, M1) = _ from r1.trans (if_neg (by omega)))]
        have hW2 := r2 (by omega)
        refine ⟨M2, lpf_end ?_, by rw [ho0] at hW2 ⊢; exact hW2⟩
        show f_X2_countOrders_22 M2 (nI 0 + -1) = _
        unfold f_X2_countOrders_22
        rw [hW2.1 1 2 (by decide), ho, ho0, if_pos (by decide)]
      · rw [lpf_go (show (fun a : Int32 × px_M => f_X2_countOrders_22 a.2 a.1) (nI s, M1) = _ from r1.trans (if_neg (by omega)))]
        have hW2 := r2 (by omega)
        obtain ⟨s', rfl⟩ : ∃ s', s = s' + 1 := ⟨s - 1, by omega⟩
        rw [pk_m1]
        exact ih s' M2 (by omega) (by omega) hW2
  have hWall : WaysI M (px_u M 5 all 1) n o all P := by
    refine ⟨fun a j ha => pu_n (by omega), fun t t1 t2 t3 => ?_⟩
    obtain rfl : t = all := by omega
    rw [px_u_in, Nn_all ((shm_0 t2).mpr hall)]; rfl
  have hstart : ∃ M2, lpf (fun a : Int32 × px_M => f_X2_countOrders_22 a.2 a.1) (nI all - 1, px_u M 5 all 1) = some M2 ∧ WaysI M M2 n o o P := by
    have hall1 : 1 ≤ all := by
      have : 2 ^ 1 ≤ 2 ^ (n - 1) := Nat.pow_le_pow_right (by decide) (by omega)
      omega
    obtain ⟨s, hs⟩ : ∃ s, all = s + 1 := ⟨all - 1, by omega⟩
    rw [hs, nI_pred]
    rw [hs] at hWall
    by_cases e : o = all
    · -- all are open: the loop does nothing
      refine ⟨px_u M 5 (s + 1) 1, lpf_end ?_, by rw [e, hs]; rw [e, hs] at hWall; exact hWall⟩
      show f_X2_countOrders_22 (px_u M 5 (s + 1) 1) (nI s) = _
      unfold f_X2_countOrders_22
      rw [pu_n (by omega), ho, if_pos (nI_lt (by omega) (by omega))]
    · exact hloop (s + 1 - o) s _ (by omega) (by omega) hWall
  obtain ⟨M2, r1, r2⟩ := hstart
  refine ⟨M2, ?_, r2⟩
  unfold f_X2_countOrders
  rw [hn, show nI n - 1 = nI (n - 1) from pk_sub (b := 1) (by omega), shl1 (n - 1) (by omega), show nI (2 ^ (n - 1)) - 1 = nI (2 ^ (n - 1) - 1) from pk_sub (b := 1) (by omega), ← hall]
  simp only [nm_u]
  rw [ok_t (ix_k (show all < 128 by omega) (by decide)), nI_clamp (by omega), r1, bd1_e, r2.1 1 2 (by decide), ho, ok_t (ix_k (show o < 128 by omega) (by decide)), nI_clamp (by omega), r2.2 o (Nat.le_refl _) ho2 (Nat.and_self o)]
/-! the reference's count, and orders -/
theorem m_countOrders (hn2 : 2 ≤ n) (hn8 : n ≤ 8) {row : List Nat} (hF : Full n row) : ∀ (k fuel : Nat) (s : Nat) (x : Int32) (M : px_M), k < fuel → s < 2 ^ (n - 1) → shm s (n - 1) = k → M 73 1 = nI n → (∀ j, j < n → M 74 j = nI (row.getD j 0)) → (∀ i, i < 8 → M 78 i = b2 (s.testBit i)) →
    ∃ M', k_X12_countOrders fuel M x = some (nI (Nn n (fun p => row.idxOf p) s), M') ∧ ∀ a j, a ≠ 75 → M' a j = M a j
  | k, 0, s, x, M, hf => absurd hf (by omega)
  | k, fuel + 1, s, x, M, hf => by
    intro hs hk e1 e74 e78
    obtain ⟨P, hPd⟩ : ∃ P, P = fun p => row.idxOf p := ⟨_, rfl⟩
    rw [← hPd]
    have hpw : 2 ^ (n - 1) ≤ 2 ^ 7 := Nat.pow_le_pow_right (by decide) (by omega)
    have h128 : (2 : Nat) ^ 7 = 128 := by decide
    have hgo : ∀ (m c : Nat) (f : Int32) (M1 : px_M), c + m = n - 1 → (∀ a j, a ≠ 75 → M1 a j = M a j) →
        ∃ M2, lpf (fun a : Int32 × Int32 × Int32 × Int32 × px_M => o_X12_countOrders_10 (k_X12_countOrders fuel) a.2.2.2.2 x a.1 a.2.1 a.2.2.1 a.2.2.2.1) (nI (fld (fun c a => a + if mayO n P s c = true then Nn n P (s ||| 2 ^ c) else 0) 0 c 0), f, nI (shm s c), nI c, M1) = some (nI (fld (fun c a => a + if mayO n P s c = true then Nn n P (s ||| 2 ^ c) else 0) 0 (n - 1) 0), nI (shm s (n - 1)), M2) ∧ ∀ a j, a ≠ 75 → M2 a j = M a j := by
      intro m
      induction m with
      | zero =>
        intro c f M1 hc hM1
        obtain rfl : c = n - 1 := by omega
        refine ⟨M1, lpf_end ?_, hM1⟩
        show o_X12_countOrders_10 (k_X12_countOrders fuel) M1 x _ f _ (nI (n - 1)) = _
        unfold o_X12_countOrders_10
        rw [hM1 73 1 (by decide), e1, nI_1, if_pos (nI_le (by omega) (by omega))]
      | succ m ih =>
        intro c f M1 hc hM1
        have f1 : M1 73 1 = nI n := by rw [hM1 73 1 (by decide)]; exact e1
        have f74 : ∀ j, j < n → M1 74 j = nI (row.getD j 0) := fun j hj => by rw [hM1 74 j (by decide)]; exact e74 j hj
        have f78 : ∀ i, i < 8 → M1 78 i = b2 (s.testBit i) := fun i hi => by rw [hM1 78 i (by decide)]; exact e78 i hi
        have hlast := fld_last (fun c a => a + if mayO n P s c = true then Nn n P (s ||| 2 ^ c) else 0) c 0 0
        rw [Nat.zero_add] at hlast
        have hsh : shm s (c + 1) = shm s c + if s.testBit c = true then 0 else 1 := rfl
        have hbody : ∃ f' M2, o_X12_countOrders_10 (k_X12_countOrders fuel) M1 x (nI (fld (fun c a => a + if mayO n P s c = true then Nn n P (s ||| 2 ^ c) else 0) 0 c 0)) f (nI (shm s c)) (nI c) = some (.inl (nI (fld (fun c a => a + if mayO n P s c = true then Nn n P (s ||| 2 ^ c) else 0) 0 (c + 1) 0), f', nI (shm s (c + 1)), nI (c + 1), M2)) ∧ ∀ a j, a ≠ 75 → M2 a j = M a j := by
          unfold o_X12_countOrders_10 o_X12_countOrders_87 o_X12_countOrders_92
          rw [f1, nI_1, if_neg (nI_ge (by omega) (by omega)), ok_t (ix_k (show c < 8 by omega) (by decide)), nI_clamp (by omega), f78 c (by omega), ifi b2_0]
          by_cases q : s.testBit c = true
          · have hmo : ¬ mayO n P s c = true := fun x => by have := mayO_f x; rw [q] at this; cases this
            rw [if_neg (by rw [q]; decide)]
            refine ⟨f, M1, ?_, hM1⟩
            rw [hlast, if_neg hmo, hsh, if_pos q]; rfl
          · have q0 := Bool.eq_false_iff.mpr q
            rw [if_pos q0]
            obtain ⟨M2, c1, c2⟩ := m_isClear (M := M1) f1 hn8 hF f74 (s := s) (c := c) f78 (by omega)
            rw [← hPd] at c1
            have hM2 : ∀ a j, a ≠ 75 → M2 a j = M a j := fun a j ha => (c2 a j ha).trans (hM1 a j ha)
            rw [c1, bd1_e]
            dsimp only
            rw [ifi b2_0, hsh, if_neg q, nI_1]
            by_cases q2 : clrB n P s c = true
            · have hmo : mayO n P s c = true := by unfold mayO; rw [q0, q2]; rfl
              have hso := shm_or q0 (n - 1)
              rw [if_pos (show c < n - 1 by omega)] at hso
              obtain ⟨M3, r1, r2⟩ := m_countOrders hn2 hn8 hF (shm (s ||| 2 ^ c) (n - 1)) fuel (s ||| 2 ^ c) (x + 1) (px_u M2 78 c 1) (by omega) (or_lt hs (by omega)) rfl (by rw [pu_n (by omega), hM2 73 1 (by decide)]; exact e1) (fun j hj => by rw [pu_n (by omega), hM2 74 j (by decide)]; exact e74 j hj) (fun i hi => by
                rw [tb_or]
                by_cases e : i = c
                · subst e; rw [px_u_in]; simp; rfl
                · rw [pu_n (by omega), hM2 78 i (by decide), e78 i hi]; simp [show ¬ c = i from fun x => e x.symm])
              rw [← hPd] at r1
              rw [if_neg (by rw [q2]; decide), ok_t (ix_k (show c < 8 by omega) (by decide)), nm_u, r1, bd1_e, ok_t (ix_k (show c < 8 by omega) (by decide)), nm_u]
              dsimp only
              have hM3 : ∀ a j, a ≠ 75 → (px_u M3 78 c 0) a j = M a j := by
                intro a j ha
                by_cases e : a = 78 ∧ j = c
                · rw [e.1, e.2, px_u_in, e78 c (by omega), q0]; rfl
                · rw [pu_n e, r2 a j ha, pu_n e]; exact hM2 a j ha
              rw [hlast, if_pos hmo]
              simp only [nm_u, nI_add]
              split
              · exact ⟨_, _, rfl, hM3⟩
              · split
                · exact ⟨_, _, rfl, hM3⟩
                · exact ⟨_, _, rfl, hM3⟩
            · have hmo : ¬ mayO n P s c = true := fun x => q2 (by unfold mayO at x; rw [Bool.and_eq_true] at x; exact x.2)
              rw [if_pos (Bool.eq_false_iff.mpr q2), hlast, if_neg hmo]
              exact ⟨f, M2, rfl, hM2⟩
        obtain ⟨f', M2, r1, r2⟩ := hbody
        rw [lpf_go (body := fun a : Int32 × Int32 × Int32 × Int32 × px_M => o_X12_countOrders_10 (k_X12_countOrders fuel) a.2.2.2.2 x a.1 a.2.1 a.2.2.1 a.2.2.2.1) (a := (nI (fld (fun c a => a + if mayO n P s c = true then Nn n P (s ||| 2 ^ c) else 0) 0 c 0), f, nI (shm s c), nI c, M1)) (a' := (nI (fld (fun c a => a + if mayO n P s c = true then Nn n P (s ||| 2 ^ c) else 0) 0 (c + 1) 0), f', nI (shm s (c + 1)), nI (c + 1), M2)) r1]
        exact ih (c + 1) f' M2 (by omega) r2
    obtain ⟨M2, r1, r2⟩ := hgo (n - 1) 0 (-1) M (by omega) (fun _ _ _ => rfl)
    refine ⟨M2, ?_, r2⟩
    show o_X12_countOrders (k_X12_countOrders fuel) M x = _
    unfold o_X12_countOrders
    rw [show lpf (fun a : Int32 × Int32 × Int32 × Int32 × px_M => o_X12_countOrders_10 (k_X12_countOrders fuel) a.2.2.2.2 x a.1 a.2.1 a.2.2.1 a.2.2.2.1) (0, -1, 0, 0, M) = _ from r1, bd1_e]
    dsimp only
    have hsl := shm_le s (n - 1)
    by_cases q : shm s (n - 1) = 0
    · rw [if_pos (by rw [q]; rfl), Nn_all q]; rfl
    · rw [if_neg (nI_ne0 (by omega) (by omega)), ← Nn_sum q]
theorem p_orders {sh : px_Sh} {u o : Nat} {row : List Nat} (hI : FoldI M n u o row) :
    (∃ r M1 M2, f_X11_orders M = some (.inl (r, M1)) ∧ f_X12_orders M1 = some (r, M2) ∧ M2 73 0 = 0 ∧ kp sh [] M M2) ∨ (f_X11_orders M = some (.inr 1) ∧ f_X12_orders M = some (0, px_t M 1)) := by
  have hI' := hI
  obtain ⟨h1, h2, h3, h4, h5, h6⟩ := hI
  by_cases hn0 : n = 0
  · right
    subst hn0
    unfold f_X11_orders f_X12_orders f_X11_orders_15 f_X12_orders_18
    rw [h3.1, if_pos (by decide), if_pos rfl, nm_u, if_pos (show (px_u M 73 0 0) 73 3 = 0 from h4 rfl), e_bt (by decide), bd1_e]
    exact ⟨rfl, rfl⟩
  · left
    have hn8 : n ≤ 8 := by omega
    have hn2 : 2 ≤ n := by omega
    obtain ⟨⟨k, kp0, kp1, kp2⟩, k2, k3, k4⟩ := h5 hn0
    obtain ⟨hP, hb⟩ := hI'.lay hn0
    obtain ⟨M1, c1, c2, c3⟩ := c_countOrders (M := M) (P := fun p => row.idxOf p) h3.1 hn2 hn8 h3.2.2.2.2 h2.2 hP hb
    have hsl := shm_le o (n - 1)
    obtain ⟨M2, m1, m2⟩ := m_countOrders hn2 hn8 k2 (shm o (n - 1)) 10 o 0 (px_u M1 73 0 0) (by omega) h2.2 rfl (by rw [pu_n (by omega), c2 73 1 (by decide)]; exact h3.2.1) (fun j hj => by rw [pu_n (by omega), c2 74 j (by decide)]; exact k4 j hj) (fun i hi => by rw [pu_n (by omega), c2 78 i (by decide)]; exact h6 i hi)
    refine ⟨nI (Nn n (fun p => row.idxOf p) o), M1, M2, ?_, ?_, ?_, ?_⟩
    · unfold f_X11_orders f_X11_orders_15 f_X11_orders_18
      rw [h3.1, if_neg (nI_nle (by omega) (by omega)), if_neg (by decide), c1]; rfl
    · unfold f_X12_orders f_X12_orders_18
      rw [nm_u, if_neg (show ¬ (px_u M1 73 0 0) 73 3 = 0 by rw [pu_n (by omega), c2 73 3 (by decide), kp2]; exact nI_ne0 kp0 kp1), e_bf, bd1_e, if_pos rfl]
      dsimp only
      rw [show f_X12_countOrders (px_u M1 73 0 0) 0 = _ from m1, bd1_e]
    · rw [m2 73 0 (by decide)]; exact px_u_in _ _ _ _
    · refine kp.tr (g := px_u M1 73 0 0) (fun a j hn => ?_) (kp_75 m2)
      have x1 : a ≠ 5 := fun q => hn (by rw [q]; exact List.mem_cons_self)
      have x2 : ¬ (a = 73 ∧ j = 0) := fun q => hn (by rw [q.1, q.2]; exact List.mem_cons_self)
      rw [pu_n x2, c2 a j x1]
end ORD
