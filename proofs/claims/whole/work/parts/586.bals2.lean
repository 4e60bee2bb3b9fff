/-! the class: whether a set of strings balances -/
theorem Sx_app (st : Nat) {c : Nat} : ∀ d, ∃ S1, Sx st (c + d) = S1 ++ Sx st c
  | 0 => ⟨[], rfl⟩
  | d + 1 => by
    obtain ⟨S1, e⟩ := Sx_app st (c := c) d
    exact ⟨kap st (c + d) :: S1, by show kap st (c + d) :: Sx st (c + d) = _; rw [e]; rfl⟩
theorem fits_iff {v D : Int} (hD : D ≠ 0) : (v = 0 ∨ (0 < v ↔ 0 < D)) ↔ 0 ≤ v * D := by
  rcases Int.lt_or_gt_of_ne hD with h | h
  · constructor
    · rintro (e | e)
      · rw [e, Int.zero_mul]; exact Int.le_refl _
      · have hv : v ≤ 0 := by
          by_cases q : 0 < v
          · have := e.mp q; omega
          · omega
        by_cases e0 : v = 0
        · rw [e0, Int.zero_mul]; exact Int.le_refl _
        · exact Int.le_of_lt (Int.mul_pos_of_neg_of_neg (by omega) h)
    · intro q
      by_cases e0 : v = 0
      · exact Or.inl e0
      · right
        refine ⟨fun z => ?_, fun z => by omega⟩
        have := Int.mul_neg_of_pos_of_neg z h
        omega
  · constructor
    · rintro (e | e)
      · rw [e, Int.zero_mul]; exact Int.le_refl _
      · exact Int.le_of_lt (Int.mul_pos (e.mpr h) h)
    · intro q
      by_cases e0 : v = 0
      · exact Or.inl e0
      · right
        refine ⟨fun _ => h, fun _ => ?_⟩
        by_cases z : 0 < v
        · exact z
        · have := Int.mul_neg_of_neg_of_pos (show v < 0 by omega) h
          omega
section CBAL
variable {sh : px_Sh} {M : px_M} {A : Nat → Nat → Int} {st m : Nat}
theorem c_elim (hh : hsh sh) (hk : ∀ k, k < 6 → Spa A k) (h6 : ∀ x, (A x 6).natAbs ≤ 100) (hst : st < 64) (hm : m ≤ 12) (h16 : M 40 16 = nI m) (h17 : M 40 17 = nI (cl st).length) {lb0 bb0 : Nat → Nat} {L0 : px_L} {R0 : px_R} (hI : EI A st m sh 0 lb0 bb0 (px_u L0 40 18 1) R0) :
    ∃ z L' R' lb bb, f_X4_eliminate sh M L0 R0 = some (z, L', R') ∧ PerR sh R' bb ∧ (∀ r, (∃ i, i < m ∧ r = lb i) ↔ ∃ i, i < m ∧ r = lb0 i) ∧ (∀ a j, a < 49 ∨ 60 < a → ¬ (a = 40 ∧ j = 18) → L' a j = L0 a j) ∧ (∀ a j, a ≠ 48 → R' a j = R0 a j) ∧
      ((z = 0 ∧ ∃ c, c < (cl st).length ∧ c ≤ m ∧ PC A (Px lb c) (Sx st c) ∧ ∀ i, c ≤ i → i < m → dt A (kap st c :: Sx st c) (lb i :: Px lb c) = 0) ∨ (z = 1 ∧ (cl st).length ≤ m ∧ EI A st m sh (cl st).length lb bb L' R')) := by
  have hl6 := (cl_t st hst).2.1
  have loop : ∀ (r c : Nat) (lb bb : Nat → Nat) (L : px_L) (R : px_R), c + r = (cl st).length → c ≤ m → EI A st m sh c lb bb L R → (∀ r, (∃ i, i < m ∧ r = lb i) ↔ ∃ i, i < m ∧ r = lb0 i) → (∀ a j, a < 49 ∨ 60 < a → ¬ (a = 40 ∧ j = 18) → L a j = L0 a j) → (∀ a j, a ≠ 48 → R a j = R0 a j) →
      ∃ z L' R' lb bb, bdS (lpf (fun a : Int32 × px_L × px_R => f_X4_eliminate_7 sh M a.2.1 a.2.2 a.1) (nI c, L, R)) (fun t_7_0 => some ((0 : Int32), t_7_0.1, t_7_0.2)) (fun u_7_0 => some (1, u_7_0.1, u_7_0.2)) = some (z, L', R') ∧ PerR sh R' bb ∧ (∀ r, (∃ i, i < m ∧ r = lb i) ↔ ∃ i, i < m ∧ r = lb0 i) ∧ (∀ a j, a < 49 ∨ 60 < a → ¬ (a = 40 ∧ j = 18) → L' a j = L0 a j) ∧ (∀ a j, a ≠ 48 → R' a j = R0 a j) ∧
      ((z = 0 ∧ ∃ c, c < (cl st).length ∧ c ≤ m ∧ PC A (Px lb c) (Sx st c) ∧ ∀ i, c ≤ i → i < m → dt A (kap st c :: Sx st c) (lb i :: Px lb c) = 0) ∨ (z = 1 ∧ (cl st).length ≤ m ∧ EI A st m sh (cl st).length lb bb L' R')) := by
    intro r
    induction r with
    | zero =>
      intro c lb bb L R hc hcm hE hl hL hR
      obtain rfl : c = (cl st).length := by omega
      refine ⟨1, L, R, lb, bb, ?_, hE.1, hl, hL, hR, Or.inr ⟨rfl, hcm, hE⟩⟩
      rw [bdS_r (lpf_end (body := fun a : Int32 × px_L × px_R => f_X4_eliminate_7 sh M a.2.1 a.2.2 a.1) (b := .inr (L, R)) (by
        show f_X4_eliminate_7 sh M L R (nI (cl st).length) = _
        unfold f_X4_eliminate_7
        rw [h17, if_pos (Int32.le_refl _)]))]
    | succ r ih =>
      intro c lb bb L R hc hcm hE hl hL hR
      rcases c_elim1 hh hk h6 hst hm h16 h17 (c := c) (by omega) hcm hE with ⟨g1, g2⟩ | ⟨L', R', lb', bb', g1, g2, g3, g4, g5, g6⟩
      · refine ⟨0, L, R, lb, bb, ?_, hE.1, hl, hL, hR, Or.inl ⟨rfl, c, by omega, hcm, hE.2.2.1, g2⟩⟩
        rw [bdS_l (lpf_end (body := fun a : Int32 × px_L × px_R => f_X4_eliminate_7 sh M a.2.1 a.2.2 a.1) (a := (nI c, L, R)) g1)]
      · rw [lpf_go (body := fun a : Int32 × px_L × px_R => f_X4_eliminate_7 sh M a.2.1 a.2.2 a.1) (a := (nI c, L, R)) g1]
        exact ih (c + 1) lb' bb' L' R' (by omega) (by omega) g3 (fun r => (g4 r).trans (hl r)) (fun a j h1 h2 => (g5 a j h1 h2).trans (hL a j h1 h2)) (fun a j h => (g6 a j h).trans (hR a j h))
  obtain ⟨z, L', R', lb, bb, g1, g2⟩ := loop (cl st).length 0 lb0 bb0 (px_u L0 40 18 1) R0 (by omega) (by omega) hI (fun _ => Iff.rfl) (fun a j h1 h2 => pu_n h2) (fun _ _ _ => rfl)
  refine ⟨z, L', R', lb, bb, ?_, g2⟩
  unfold f_X4_eliminate
  rw [nm_u]
  exact g1
/-- when all columns are through: what stands in the last one is not too long -/
theorem Te_r {lb : Nat → Nat} (hk : ∀ k, k < 6 → Spa A k) (h6 : ∀ x, (A x 6).natAbs ≤ 100) (hst : st < 64) (hi : ∀ i j, i < m → j < m → lb i = lb j → i = j) (hnm : (cl st).length ≤ m) {i : Nat} (him : i < m) : (Te A st lb (cl st).length i (cl st).length).natAbs ≤ 218400000000 ∧ (i < (cl st).length → (Te A st lb (cl st).length i (cl st).length).natAbs ≤ 4680000000) ∧ (dt A (Sx st (cl st).length) (Px lb (cl st).length)).natAbs ≤ 312000000 := by
  have hl6 := (cl_t st hst).2.1
  have hS6 := Sx_6 hst (Nat.le_refl (cl st).length)
  have kap6 : kap st (cl st).length = 6 := by unfold kap; simp
  obtain ⟨n, en⟩ : ∃ n, n = (cl st).length := ⟨_, rfl⟩
  rw [← en] at hl6 hS6 kap6 hnm ⊢
  have hnd := Px_nd hi n hnm
  have hd : (dt A (Sx st n) (Px lb n)).natAbs ≤ 312000000 := Nat.le_trans (dt_bd hk n (Sx st n) (Px lb n) hl6 (Sx_len st n) hS6 (Px_len lb n) hnd) (bnd_le hl6)
  have h1 : i < n → (Te A st lb n i n).natAbs ≤ 4680000000 := by
    intro e
    unfold Te
    rw [if_pos e]
    unfold Uj
    have hsg : ((-1 : Int) ^ (n - 1 - i) * dt A (kap st n :: (Sx st n).eraseIdx (n - 1 - i)) (Px lb n)).natAbs = (dt A (kap st n :: (Sx st n).eraseIdx (n - 1 - i)) (Px lb n)).natAbs := by
      rw [Int.natAbs_mul, Int.natAbs_pow]
      simp
    rw [hsg, kap6]
    have hel : ((Sx st n).eraseIdx (n - 1 - i)).length = n - 1 := by
      rw [List.length_eraseIdx, Sx_len, if_pos (by omega)]
    have h1 := dt_rhs hk h6 (m := n - 1) (by omega) hel (fun s hs => hS6 s (List.mem_of_mem_eraseIdx hs)) (by rw [Px_len]; omega) hnd
    have h2 := bnd_5 (m := n - 1) (by omega)
    have h3 : (n - 1 + 1) * (100 * bnd (n - 1)) ≤ 6 * (100 * 7800000) := Nat.mul_le_mul (by omega) (Nat.mul_le_mul (Nat.le_refl _) h2)
    omega
  refine ⟨?_, h1, hd⟩
  by_cases e : i < n
  · have := h1 e; omega
  · unfold Te
    rw [if_neg e, kap6]
    have h2 := dt_rhs hk h6 (m := n) hl6 (Sx_len st n) hS6 (by rw [List.length_cons, Px_len]) (Px_nd1 hi (c := n) (i := i) (by omega) him)
    have h3 : (n + 1) * (100 * bnd n) ≤ 7 * (100 * 312000000) := Nat.mul_le_mul (by omega) (Nat.mul_le_mul (Nat.le_refl _) (bnd_le hl6))
    omega
theorem c_pulls (hh : hsh sh) (hk : ∀ k, k < 6 → Spa A k) (h6 : ∀ x, (A x 6).natAbs ≤ 100) (hst : st < 64) (hm : m ≤ 12) (h16 : M 40 16 = nI m) (h17 : M 40 17 = nI (cl st).length) (hnm : (cl st).length ≤ m) {lb bb : Nat → Nat} {L : px_L} {R : px_R} (hI : EI A st m sh (cl st).length lb bb L R) :
    ∃ z, f_X4_pullsOnly sh M L R = some z ∧ ((z = 1 ∧ ∀ i, i < m → if i < (cl st).length then 0 ≤ Te A st lb (cl st).length i (cl st).length * dt A (Sx st (cl st).length) (Px lb (cl st).length) else Te A st lb (cl st).length i (cl st).length = 0) ∨ (z = 0 ∧ ¬ ∀ i, i < m → if i < (cl st).length then 0 ≤ Te A st lb (cl st).length i (cl st).length * dt A (Sx st (cl st).length) (Px lb (cl st).length) else Te A st lb (cl st).length i (cl st).length = 0)) := by
  obtain ⟨hP, hlb, hpc, h18, hT⟩ := hI
  have hl6 := (cl_t st hst).2.1
  have hD0 := PC_d A hpc
  have key : ∀ i, i < m → ((if i < (cl st).length then 0 ≤ Te A st lb (cl st).length i (cl st).length * dt A (Sx st (cl st).length) (Px lb (cl st).length) else Te A st lb (cl st).length i (cl st).length = 0) → f_X4_pullsOnly_2 sh M L R (nI i) = some (.inl (nI (i + 1)))) ∧ (¬ (if i < (cl st).length then 0 ≤ Te A st lb (cl st).length i (cl st).length * dt A (Sx st (cl st).length) (Px lb (cl st).length) else Te A st lb (cl st).length i (cl st).length = 0) → f_X4_pullsOnly_2 sh M L R (nI i) = some (.inr (.inl ()))) := by
    intro i hi
    obtain ⟨b1, b2, b3⟩ := hP.1 i (by omega)
    obtain ⟨r1, r2, r3⟩ := Te_r hk h6 hst hlb hnm hi
    obtain ⟨v, ev⟩ : ∃ v, v = Te A st lb (cl st).length i (cl st).length := ⟨_, rfl⟩
    obtain ⟨D, eD⟩ : ∃ D, D = dt A (Sx st (cl st).length) (Px lb (cl st).length) := ⟨_, rfl⟩
    have hv := hT i hi (cl st).length (Nat.le_refl _)
    rw [← ev] at hv r1 r2 ⊢
    rw [← eD] at h18 hD0 r3 ⊢
    have rv : rg v := rg_n r1 (by decide)
    have rD : rg D := rg_n r3 (by decide)
    have base : f_X4_pullsOnly_2 sh M L R (nI i) = if i < (cl st).length then (if v = 0 then some (.inl (nI (i + 1))) else if v ≤ 0 then (if D ≤ 0 then some (.inl (nI (i + 1))) else some (.inr (.inl ()))) else (if D ≤ 0 then some (.inr (.inl ())) else some (.inl (nI (i + 1))))) else if v = 0 then some (.inl (nI (i + 1))) else some (.inr (.inl ())) := by
      unfold f_X4_pullsOnly_2 f_X4_pullsOnly_61 f_X4_pullsOnly_75 f_X4_pullsOnly_78 f_X4_pullsOnly_83
      rw [h16, if_neg (nI_ge hi (by omega)), ok_t (ix_k (show i < 12 by omega) (by decide)), nI_clamp (show i < 2 ^ 31 by omega), b1, bd1_e, nm_u, h17, ok_t (xk_t (hh _ b2 b3) (ix_k (show (cl st).length < 7 by omega) (by decide))), nI_clamp (show (cl st).length < 2 ^ 31 by omega), hv, nm_u, h18, nI_1, ifi (nI_ltI (a := i) (b := (cl st).length) (by omega) (by omega))]
      by_cases e : i < (cl st).length
      · rw [if_pos e, if_pos e]
        by_cases e0 : v = 0
        · rw [if_pos e0, if_pos ((lc_0 rv).mpr e0)]
          rfl
        · rw [if_neg e0, if_neg (fun z => e0 ((lc_0 rv).mp z))]
          by_cases e1 : v ≤ 0
          · rw [if_pos e1, if_pos ((lc_le rv).mpr e1)]
            by_cases e2 : D ≤ 0
            · rw [if_pos e2, if_pos ((lc_le rD).mpr e2)]
              rfl
            · rw [if_neg e2, if_neg (fun z => e2 ((lc_le rD).mp z))]
              rfl
          · rw [if_neg e1, if_neg (fun z => e1 ((lc_le rv).mp z))]
            by_cases e2 : D ≤ 0
            · rw [if_pos e2, if_pos ((lc_le rD).mpr e2)]
              rfl
            · rw [if_neg e2, if_neg (fun z => e2 ((lc_le rD).mp z))]
              rfl
      · rw [if_neg e, if_neg e]
        by_cases e0 : v = 0
        · rw [if_pos e0, if_pos ((lc_0 rv).mpr e0)]
          rfl
        · rw [if_neg e0, if_neg (fun z => e0 ((lc_0 rv).mp z))]
          rfl
    rw [base]
    have hf := fits_iff (v := v) hD0
    by_cases e : i < (cl st).length
    · rw [if_pos e, if_pos e, ← hf]
      by_cases e0 : v = 0
      · rw [if_pos e0]
        exact ⟨fun _ => rfl, fun q => absurd (Or.inl e0) q⟩
      · rw [if_neg e0]
        by_cases e1 : v ≤ 0
        · rw [if_pos e1]
          by_cases e2 : D ≤ 0
          · rw [if_pos e2]
            exact ⟨fun _ => rfl, fun q => absurd (Or.inr (by omega)) q⟩
          · rw [if_neg e2]
            exact ⟨fun q => by omega, fun _ => rfl⟩
        · rw [if_neg e1]
          by_cases e2 : D ≤ 0
          · rw [if_pos e2]
            exact ⟨fun q => by omega, fun _ => rfl⟩
          · rw [if_neg e2]
            exact ⟨fun _ => rfl, fun q => absurd (Or.inr (by omega)) q⟩
    · rw [if_neg e, if_neg e]
      by_cases e0 : v = 0
      · rw [if_pos e0]
        exact ⟨fun _ => rfl, fun q => absurd e0 q⟩
      · rw [if_neg e0]
        exact ⟨fun q => absurd q e0, fun _ => rfl⟩
  have F := lpf_find (body := fun a : Int32 => f_X4_pullsOnly_2 sh M L R a) (fun i => nI i) m (fun i => ¬ (if i < (cl st).length then 0 ≤ Te A st lb (cl st).length i (cl st).length * dt A (Sx st (cl st).length) (Px lb (cl st).length) else Te A st lb (cl st).length i (cl st).length = 0)) (fun _ => .inl ()) (.inr ())
    (fun i hi hz => (key i hi).1 (Classical.not_not.mp hz))
    (fun i hi hz => (key i hi).2 hz)
    (by
      show f_X4_pullsOnly_2 sh M L R (nI m) = _
      unfold f_X4_pullsOnly_2
      rw [h16, if_pos (Int32.le_refl _)]) m 0 (by omega)
  unfold f_X4_pullsOnly
  rcases F with ⟨F1, F2⟩ | ⟨q, q1, q2, q3, q4, F1⟩
  · refine ⟨1, by rw [show (0 : Int32) = nI 0 from rfl, bdS_r F1], Or.inl ⟨rfl, fun i hi => Classical.not_not.mp (F2 i (by omega) hi)⟩⟩
  · exact ⟨0, by rw [show (0 : Int32) = nI 0 from rfl, bdS_l F1], Or.inr ⟨rfl, fun h => q3 (h q q2)⟩⟩
/-- the class's answer -/
theorem c_bal (hh : hsh sh) (hk : ∀ k, k < 6 → Spa A k) (h6 : ∀ x, (A x 6).natAbs ≤ 100) (hst : st < 64) (hm : m ≤ 12) (h16 : M 40 16 = nI m) (h17 : M 40 17 = nI (cl st).length) {lb0 bb0 : Nat → Nat} {L0 : px_L} {R0 : px_R} (hI : EI A st m sh 0 lb0 bb0 (px_u L0 40 18 1) R0) (hlb : ∀ i, i < m → lb0 i < 12) (hz : ∀ r, r < 12 → (∃ i, i < m ∧ r = lb0 i) ∨ ∀ k, A r k = 0) :
    ∃ z L' R' bb, (bd1 (f_X4_eliminate sh M L0 R0) fun e_7 => if e_7.1 = 0 then f_X4_balances_24 sh M e_7.2.1 e_7.2.2 else bd1 (f_X4_pullsOnly sh M e_7.2.1 e_7.2.2) fun e_14 => if e_14 = 0 then f_X4_balances_24 sh M e_7.2.1 e_7.2.2 else f_X4_balances_25 sh M e_7.2.1 e_7.2.2 1) = some (z, M, L', R') ∧ PerR sh R' bb ∧ (∀ a j, a < 49 ∨ 60 < a → ¬ (a = 40 ∧ j = 18) → L' a j = L0 a j) ∧ (∀ a j, a ≠ 48 → R' a j = R0 a j) ∧
      ((z = 0 ∧ ¬ Bal A (Sx st (cl st).length)) ∨ (z = 1 ∧ Bal A (Sx st (cl st).length) ∧ ∃ lb, (cl st).length ≤ m ∧ EI A st m sh (cl st).length lb bb L' R' ∧ (∀ i, i < m → lb i < 12) ∧ ∀ r, r < 12 → dt A (6 :: Sx st (cl st).length) (r :: Px lb (cl st).length) = 0)) := by
  have kap6 : kap st (cl st).length = 6 := by unfold kap; simp
  obtain ⟨z, L', R', lb, bb, g1, g2, g3, g4, g5, g6⟩ := c_elim hh hk h6 hst hm h16 h17 hI
  have hlb' : ∀ i, i < m → lb i < 12 := fun i hi => by
    obtain ⟨j, j1, j2⟩ := (g3 (lb i)).mp ⟨i, hi, rfl⟩
    rw [j2]; exact hlb j j1
  have all : ∀ (c k : Nat), c ≤ m → PC A (Px lb c) (Sx st c) → (∀ i, c ≤ i → i < m → dt A (k :: Sx st c) (lb i :: Px lb c) = 0) → ∀ r, r < 12 → dt A (k :: Sx st c) (r :: Px lb c) = 0 := by
    intro c k hc hp h r hr
    rcases hz r hr with hl | h0
    · obtain ⟨i, i1, rfl⟩ := (g3 r).mpr hl
      by_cases e : c ≤ i
      · exact h i e i1
      · refine W_piv A hp ?_ k
        have : ∀ c, i < c → lb i ∈ Px lb c := by
          intro c
          induction c with
          | zero => intro h; omega
          | succ c ih =>
            intro h
            by_cases e : i = c
            · subst e; exact List.mem_cons_self
            · exact List.mem_cons_of_mem _ (ih (by omega))
        exact this c (by omega)
    · exact W_zero A hp h0 k
  unfold f_X4_balances_24 f_X4_balances_25
  rw [g1, bd1_e, ok_t zb0, ok_t zb1]
  rcases g6 with ⟨rfl, c, c1, c2, c3, c4⟩ | ⟨rfl, c1, c2⟩
  · rw [if_pos rfl]
    refine ⟨0, L', R', bb, rfl, g2, g4, g5, Or.inl ⟨rfl, ?_⟩⟩
    obtain ⟨S1, e⟩ := Sx_app st (c := c + 1) ((cl st).length - (c + 1))
    rw [show c + 1 + ((cl st).length - (c + 1)) = (cl st).length by omega] at e
    rw [e]
    exact Bal_stuck A c3 (all c (kap st c) c2 c3 c4)
  · rw [if_neg (show ¬ (1 : Int32) = 0 by decide)]
    obtain ⟨z, p1, p2⟩ := c_pulls hh hk h6 hst hm h16 h17 c1 c2
    have hpc := c2.2.2.1
    have hPr : ∀ r, r ∈ Px lb (cl st).length → r < 12 := fun r hr => by
      obtain ⟨j, j1, rfl⟩ := Px_mem _ hr
      exact hlb' j (by omega)
    have hiff := Bal_iff A hpc hPr
    have hTw : ∀ i, (cl st).length ≤ i → Te A st lb (cl st).length i (cl st).length = dt A (6 :: Sx st (cl st).length) (lb i :: Px lb (cl st).length) := fun i h => by
      unfold Te
      rw [if_neg (by omega), kap6]
    have hTu : ∀ i, i < (cl st).length → Te A st lb (cl st).length i (cl st).length = Uj A (Sx st (cl st).length) (Px lb (cl st).length) ((cl st).length - 1 - i) 6 := fun i h => by
      unfold Te
      rw [if_pos h, kap6]
    rw [p1, bd1_e]
    rcases p2 with ⟨rfl, p2⟩ | ⟨rfl, p2⟩
    · rw [if_neg (show ¬ (1 : Int32) = 0 by decide)]
      have hall := all (cl st).length 6 c1 hpc (fun i i1 i2 => by
        have := p2 i i2
        rw [if_neg (by omega), hTw i i1] at this
        exact this)
      refine ⟨1, L', R', bb, rfl, g2, g4, g5, Or.inr ⟨rfl, hiff.mpr ⟨hall, fun j hj => ?_⟩, lb, c1, c2, hlb', hall⟩⟩
      rw [Sx_len] at hj
      have := p2 ((cl st).length - 1 - j) (by omega)
      rw [if_pos (by omega), hTu _ (by omega), show (cl st).length - 1 - ((cl st).length - 1 - j) = j by omega] at this
      exact this
    · rw [if_pos rfl]
      refine ⟨0, L', R', bb, rfl, g2, g4, g5, Or.inl ⟨rfl, fun hB => p2 fun i hi => ?_⟩⟩
      obtain ⟨q1, q2⟩ := hiff.mp hB
      by_cases e : i < (cl st).length
      · rw [if_pos e, hTu i e]
        exact q2 _ (by rw [Sx_len]; omega)
      · rw [if_neg e, hTw i (by omega)]
        exact q1 _ (hlb' i hi)
end CBAL
