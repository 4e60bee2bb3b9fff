/-! the class eliminates, and tells whether a set balances -/
section CELIM
variable {sh : px_Sh} {M : px_M} {bb : Nat → Nat}
def hsh (sh : px_Sh) : Prop := ∀ b, 49 ≤ b → b ≤ 60 → sh b = some (14, 7)
theorem hsh_of {R : px_R} (hS : SR sh R) : hsh sh := by
  intro b h1 h2
  obtain rfl | rfl | rfl | rfl | rfl | rfl | rfl | rfl | rfl | rfl | rfl | rfl : b = 49 ∨ b = 50 ∨ b = 51 ∨ b = 52 ∨ b = 53 ∨ b = 54 ∨ b = 55 ∨ b = 56 ∨ b = 57 ∨ b = 58 ∨ b = 59 ∨ b = 60 := by omega
  all_goals exact hS.1 _ (by decide)
theorem c_clear (hh : hsh sh) {R : px_R} (hP : PerR sh R bb) {n x c : Nat} (hn : n ≤ 6) (hx : x < 12) (hc : c < 12) (hcn : c < n) (hxc : x ≠ c) (h17 : M 40 17 = nI n) {L : px_L} {t u w : Nat → Int} {d : Int} (hd : L 40 18 = lI d) (hd0 : d ≠ 0) (hdr : rg d) (ht : ∀ k, k ≤ n → L (bb x) k = lI (t k)) (hu : ∀ k, k ≤ n → L (bb c) k = lI (u k)) (he : ∀ k, k ≤ n → d * w k = u c * t k - t c * u k) (hr : ∀ k, k ≤ n → rg (u c * t k - t c * u k)) :
    ∃ L', f_X4_clearEntry sh M L R (nI x) (nI c) = some L' ∧ (∀ k, k ≤ n → L' (bb x) k = lI (w k)) ∧ ∀ a j, a ≠ bb x → L' a j = L a j := by
  obtain ⟨x1, x2, x3⟩ := hP.1 x hx
  obtain ⟨c1, c2, c3⟩ := hP.1 c hc
  have hbx := hh _ x2 x3
  have hbc := hh _ c2 c3
  have hne : bb c ≠ bb x := fun z => hxc (hP.2 c x hc hx z).symm
  have K := lpf_for (body := fun a : Int32 × px_L => f_X4_clearEntry_22 sh M a.2 R (nI x) (nI c) (lI (u c)) (lI (t c)) a.1) (fun k (L' : px_L) => (nI k, L')) (fun k L' => px_u L' (bb x) k (lI (w k))) (fun k L' => (∀ j, j < k → L' (bb x) j = lI (w j)) ∧ (∀ j, k ≤ j → j ≤ n → L' (bb x) j = lI (t j)) ∧ ∀ a j, a ≠ bb x → L' a j = L a j) (fun L' => L') (n + 1)
    (fun k L' hk hP' => by
      obtain ⟨P1, P2, P3⟩ := hP'
      refine ⟨?_, fun j hj => ?_, fun j j1 j2 => ?_, fun a j ha => ?_⟩
      · show f_X4_clearEntry_22 sh M L' R (nI x) (nI c) (lI (u c)) (lI (t c)) (nI k) = _
        have e18 : L' 40 18 = lI d := by rw [P3 40 18 (by omega)]; exact hd
        have ecu : L' (bb c) k = lI (u k) := by rw [P3 _ _ hne]; exact hu k (by omega)
        unfold f_X4_clearEntry_22
        rw [h17, if_neg (nI_nlt (by omega) (by omega)), e18, if_neg (fun z => hd0 ((lc_0 hdr).mp z)), ok_t (ix_k hx (by decide)), nI_clamp (show x < 2 ^ 31 by omega), x1, bd1_e, ok_t (ix_k hx (by decide)), bd1_e, ok_t (xk_t hbx (ix_k (show k < 7 by omega) (by decide))), ok_t (ix_k hc (by decide)), nI_clamp (show c < 2 ^ 31 by omega), c1, bd1_e, ok_t (xk_t hbc (ix_k (show k < 7 by omega) (by decide))), ok_t (lc_nz hdr hd0), nI_clamp (show k < 2 ^ 31 by omega), P2 k (Nat.le_refl _) (by omega), ecu, nm_u, lI_ms, lI_div (hr k (by omega)) hdr, ← he k (by omega), Int.mul_tdiv_cancel_left _ hd0, ok_t (xk_t hbx (ix_k (show k < 7 by omega) (by decide))), nm_u, nI_1]
      · by_cases e : j = k
        · subst e; exact px_u_in _ _ _ _
        · rw [pu_n (fun z => e z.2)]; exact P1 j (by omega)
      · rw [pu_n (by omega)]; exact P2 j (by omega) j2
      · rw [pu_n (fun z => ha z.1)]; exact P3 a j ha)
    (fun L' _ => by
      show f_X4_clearEntry_22 sh M L' R (nI x) (nI c) (lI (u c)) (lI (t c)) (nI (n + 1)) = _
      unfold f_X4_clearEntry_22
      rw [h17, if_pos (nI_lt (by omega) (by omega))]) (n + 1) 0 L (by omega) ⟨fun j hj => absurd hj (by omega), fun j _ j2 => ht j j2, fun _ _ _ => rfl⟩
  obtain ⟨K1, K2, -, K3⟩ := K
  refine ⟨_, ?_, fun k hk => K2 k (by omega), K3⟩
  unfold f_X4_clearEntry
  rw [ok_t (ix_k hc (by decide)), nI_clamp (show c < 2 ^ 31 by omega), c1, bd1_e, ok_t (xk_t hbc (ix_k (show c < 7 by omega) (by decide))), nm_u, hu c (by omega), ok_t (ix_k hx (by decide)), nI_clamp (show x < 2 ^ 31 by omega), x1, bd1_e, ok_t (xk_t hbx (ix_k (show c < 7 by omega) (by decide))), nm_u, ht c (by omega), show ((0, L) : Int32 × px_L) = (nI 0, L) from rfl, K1, bd1_e]
/-- the class's state when c columns are through -/
def EI (A : Nat → Nat → Int) (st m : Nat) (sh : px_Sh) (c : Nat) (lb bb : Nat → Nat) (L : px_L) (R : px_R) : Prop :=
  PerR sh R bb ∧ (∀ i j, i < m → j < m → lb i = lb j → i = j) ∧ PC A (Px lb c) (Sx st c) ∧ L 40 18 = lI (dt A (Sx st c) (Px lb c)) ∧ ∀ i, i < m → ∀ k, k ≤ (cl st).length → L (bb i) k = lI (Te A st lb c i k)
def swp (f : Nat → Nat) (c q i : Nat) : Nat := if i = c then f q else if i = q then f c else f i
theorem swp_lt {f : Nat → Nat} {c q j : Nat} (h1 : j < c) (h2 : c ≤ q) : swp f c q j = f j := by
  unfold swp
  rw [if_neg (by omega), if_neg (by omega)]
theorem swp_inj {f : Nat → Nat} {m c q : Nat} (hc : c < m) (hq : q < m) (h : ∀ i j, i < m → j < m → f i = f j → i = j) : ∀ i j, i < m → j < m → swp f c q i = swp f c q j → i = j := by
  intro i j hi hj e
  unfold swp at e
  by_cases a1 : i = c
  · rw [if_pos a1] at e
    by_cases b1 : j = c
    · omega
    · rw [if_neg b1] at e
      by_cases b2 : j = q
      · rw [if_pos b2] at e
        have := h q c hq hc e
        omega
      · rw [if_neg b2] at e
        have := h q j hq hj e
        omega
  · rw [if_neg a1] at e
    by_cases a2 : i = q
    · rw [if_pos a2] at e
      by_cases b1 : j = c
      · rw [if_pos b1] at e
        have := h c q hc hq e
        omega
      · rw [if_neg b1] at e
        by_cases b2 : j = q
        · omega
        · rw [if_neg b2] at e
          have := h c j hc hj e
          omega
    · rw [if_neg a2] at e
      by_cases b1 : j = c
      · rw [if_pos b1] at e
        have := h i q hi hq e
        omega
      · rw [if_neg b1] at e
        by_cases b2 : j = q
        · rw [if_pos b2] at e
          have := h i c hi hc e
          omega
        · rw [if_neg b2] at e
          exact h i j hi hj e
theorem Te_swp {A : Nat → Nat → Int} {st : Nat} {lb : Nat → Nat} {c q : Nat} (hq : c ≤ q) (i k : Nat) : Te A st (swp lb c q) c i k = if i < c then Te A st lb c i k else dt A (kap st k :: Sx st c) (swp lb c q i :: Px lb c) := by
  have e : Px (swp lb c q) c = Px lb c := Px_cg c fun j hj => swp_lt hj hq
  unfold Te
  rw [e]
  by_cases h : i < c
  · rw [if_pos h, if_pos h, if_pos h]
  · rw [if_neg h, if_neg h]
variable {A : Nat → Nat → Int} {st m : Nat}
/-- one column -/
theorem c_elim1 (hh : hsh sh) (hk : ∀ k, k < 6 → Spa A k) (h6 : ∀ x, (A x 6).natAbs ≤ 100) (hst : st < 64) (hm : m ≤ 12) (h16 : M 40 16 = nI m) (h17 : M 40 17 = nI (cl st).length) {c : Nat} (hc : c < (cl st).length) (hcm : c ≤ m) {lb : Nat → Nat} {L : px_L} {R : px_R} (hI : EI A st m sh c lb bb L R) :
    (f_X4_eliminate_7 sh M L R (nI c) = some (.inr (.inl (L, R))) ∧ ∀ i, c ≤ i → i < m → dt A (kap st c :: Sx st c) (lb i :: Px lb c) = 0) ∨
    ∃ L' R' lb' bb', f_X4_eliminate_7 sh M L R (nI c) = some (.inl (nI (c + 1), L', R')) ∧ c < m ∧ EI A st m sh (c + 1) lb' bb' L' R' ∧ (∀ r, (∃ i, i < m ∧ r = lb' i) ↔ ∃ i, i < m ∧ r = lb i) ∧ (∀ a j, a < 49 ∨ 60 < a → ¬ (a = 40 ∧ j = 18) → L' a j = L a j) ∧ ∀ a j, a ≠ 48 → R' a j = R a j := by
  obtain ⟨hP, hlb, hpc, h18, hT⟩ := hI
  have hl6 := (cl_t st hst).2.1
  have hTb : ∀ i k, i < m → k ≤ (cl st).length → (Te A st lb c i k).natAbs ≤ 4680000000 ∧ (k < (cl st).length → (Te A st lb c i k).natAbs ≤ 312000000) := fun i k hi hk2 => Te_b hk h6 hst hlb (by omega) (by omega) hcm hi hk2
  have hW : ∀ i k, c ≤ i → Te A st lb c i k = dt A (kap st k :: Sx st c) (lb i :: Px lb c) := fun i k h => if_neg (by omega)
  have F := lpf_find (body := fun a : Int32 => f_X4_eliminate_17 sh M L R (nI c) a) (fun i => nI i) m (fun i => Te A st lb c i c ≠ 0) (fun i => nI i) (nI m)
    (fun i hi hz => by
      obtain ⟨b1, b2, b3⟩ := hP.1 i (by omega)
      show f_X4_eliminate_17 sh M L R (nI c) (nI i) = _
      unfold f_X4_eliminate_17
      rw [h16, if_neg (nI_ge hi (by omega)), ok_t (ix_k (show i < 12 by omega) (by decide)), nI_clamp (show i < 2 ^ 31 by omega), b1, bd1_e, ok_t (xk_t (hh _ b2 b3) (ix_k (show c < 7 by omega) (by decide))), nI_clamp (show c < 2 ^ 31 by omega), hT i hi c (by omega), if_pos ((lc_0 (rg_n (hTb i c hi (by omega)).1 (by decide))).mpr (Classical.not_not.mp hz)), nI_1])
    (fun i hi hz => by
      obtain ⟨b1, b2, b3⟩ := hP.1 i (by omega)
      show f_X4_eliminate_17 sh M L R (nI c) (nI i) = _
      unfold f_X4_eliminate_17
      rw [h16, if_neg (nI_ge hi (by omega)), ok_t (ix_k (show i < 12 by omega) (by decide)), nI_clamp (show i < 2 ^ 31 by omega), b1, bd1_e, ok_t (xk_t (hh _ b2 b3) (ix_k (show c < 7 by omega) (by decide))), nI_clamp (show c < 2 ^ 31 by omega), hT i hi c (by omega), if_neg (fun z => hz ((lc_0 (rg_n (hTb i c hi (by omega)).1 (by decide))).mp z))])
    (by
      show f_X4_eliminate_17 sh M L R (nI c) (nI m) = _
      unfold f_X4_eliminate_17
      rw [h16, if_pos (Int32.le_refl _)]) (m - c) c (by omega)
  rcases F with ⟨F1, F2⟩ | ⟨q, q1, q2, q3, q4, F1⟩
  · left
    refine ⟨?_, fun i i1 i2 => ?_⟩
    · unfold f_X4_eliminate_7
      rw [h17, if_neg (nI_ge hc (by omega)), F1, bd1_e, h16, if_neg (Int32.lt_irrefl)]
    · rw [← hW i c i1]
      exact Classical.not_not.mp (F2 i i1 i2)
  · right
    have hcm' : c < m := by omega
    obtain ⟨c1, c2, c3⟩ := hP.1 c (by omega)
    obtain ⟨p1, p2, p3⟩ := hP.1 q (by omega)
    have hbc := hh _ c2 c3
    have hbq := hh _ p2 p3
    obtain ⟨R', eR'⟩ : ∃ R', R' = px_u (px_u R 48 q (some (bb c))) 48 c (some (bb q)) := ⟨_, rfl⟩
    have hP' : PerR sh R' (swp bb c q) := by
      refine ⟨fun i hi => ?_, swp_inj (by omega) (by omega) hP.2⟩
      rw [eR']
      unfold swp
      by_cases e1 : i = c
      · subst e1
        rw [px_u_in, if_pos rfl]
        exact ⟨rfl, p2, p3⟩
      · rw [if_neg e1, pu_n (fun z => e1 z.2)]
        by_cases e2 : i = q
        · subst e2
          rw [px_u_in, if_pos rfl]
          exact ⟨rfl, c2, c3⟩
        · rw [if_neg e2, pu_n (fun z => e2 z.2)]
          exact hP.1 i hi
    have hlb' := swp_inj hcm' q2 hlb
    have hT' : ∀ i, i < m → ∀ k, k ≤ (cl st).length → L (swp bb c q i) k = lI (Te A st (swp lb c q) c i k) := by
      intro i hi k hk2
      rw [Te_swp q1]
      unfold swp
      by_cases e : i < c
      · rw [if_pos e, if_neg (by omega), if_neg (by omega)]; exact hT i hi k hk2
      · rw [if_neg e]
        by_cases e1 : i = c
        · rw [if_pos e1, if_pos e1, hT q q2 k hk2, hW q k q1]
        · rw [if_neg e1, if_neg e1]
          by_cases e2 : i = q
          · rw [if_pos e2, if_pos e2, hT c hcm' k hk2, hW c k (Nat.le_refl _)]
          · rw [if_neg e2, if_neg e2, hT i hi k hk2, hW i k (by omega)]
    have hPx : Px (swp lb c q) c = Px lb c := Px_cg c fun j hj => swp_lt hj q1
    have hpc' : PC A (Px (swp lb c q) c) (Sx st c) := by rw [hPx]; exact hpc
    have hL0 : Te A st (swp lb c q) c c c ≠ 0 := by
      rw [Te_swp q1, if_neg (by omega)]
      unfold swp
      rw [if_pos rfl, ← hW q c q1]
      exact q3
    obtain ⟨T1, T2, T3⟩ := Te_step hpc' hL0
    have hTb' : ∀ i k, i < m → k ≤ (cl st).length → (Te A st (swp lb c q) c i k).natAbs ≤ 4680000000 ∧ (k < (cl st).length → (Te A st (swp lb c q) c i k).natAbs ≤ 312000000) := fun i k hi hk2 => Te_b hk h6 hst hlb' (by omega) (by omega) hcm hi hk2
    have hDb : (dt A (Sx st c) (Px lb c)).natAbs ≤ 312000000 := Nat.le_trans (dt_bd hk c (Sx st c) (Px lb c) (by omega) (Sx_len st c) (Sx_6 hst (by omega)) (Px_len lb c) (Px_nd hlb c hcm)) (bnd_le (by omega))
    have hD0 := PC_d A hpc
    have K : ∀ (r i : Nat) (Lx : px_L), i + r = m → Lx 40 18 = lI (dt A (Sx st c) (Px lb c)) → (∀ j, j < m → ∀ k, k ≤ (cl st).length → Lx (swp bb c q j) k = lI (if j < i then Te A st (swp lb c q) (c + 1) j k else Te A st (swp lb c q) c j k)) → (∀ a j, a < 49 ∨ 60 < a → Lx a j = L a j) →
        ∃ Ly, lpf (fun a : Int32 × px_L => f_X4_eliminate_83 sh M a.2 R' (nI c) a.1) (nI i, Lx) = some Ly ∧ (∀ j, j < m → ∀ k, k ≤ (cl st).length → Ly (swp bb c q j) k = lI (Te A st (swp lb c q) (c + 1) j k)) ∧ ∀ a j, a < 49 ∨ 60 < a → Ly a j = L a j := by
      intro r
      induction r with
      | zero =>
        intro i Lx hi x1 x2 x3
        obtain rfl : i = m := by omega
        refine ⟨Lx, lpf_end ?_, fun j hj k hk2 => by rw [x2 j hj k hk2, if_pos hj], x3⟩
        show f_X4_eliminate_83 sh M Lx R' (nI c) (nI i) = _
        unfold f_X4_eliminate_83
        rw [h16, if_pos (Int32.le_refl _)]
      | succ r ih =>
        intro i Lx hi x1 x2 x3
        by_cases e : i = c
        · have hb : (fun a : Int32 × px_L => f_X4_eliminate_83 sh M a.2 R' (nI c) a.1) (nI i, Lx) = some (.inl (nI (i + 1), Lx)) := by
            show f_X4_eliminate_83 sh M Lx R' (nI c) (nI i) = _
            unfold f_X4_eliminate_83 f_X4_eliminate_105
            rw [h16, if_neg (nI_ge (show i < m by omega) (by omega)), if_pos (by rw [e]), nI_1]
          rw [lpf_go hb]
          refine ih (i + 1) Lx (by omega) x1 (fun j hj k hk2 => ?_) x3
          rw [x2 j hj k hk2]
          by_cases e2 : j = c
          · subst e2
            rw [if_neg (by omega), if_pos (by omega), T2]
          · by_cases e3 : j < i
            · rw [if_pos e3, if_pos (by omega)]
            · rw [if_neg e3, if_neg (by omega)]
        · have hrow : ∀ k, k ≤ (cl st).length → Lx (swp bb c q c) k = lI (Te A st (swp lb c q) c c k) := by
            intro k hk2
            rw [x2 c hcm' k hk2]
            by_cases e3 : c < i
            · rw [if_pos e3, T2]
            · rw [if_neg e3]
          obtain ⟨L2, y1, y2, y3⟩ := c_clear (M := M) hh hP' (n := (cl st).length) (x := i) (c := c) hl6 (by omega) (by omega) hc e h17 (L := Lx) (t := fun k => Te A st (swp lb c q) c i k) (u := fun k => Te A st (swp lb c q) c c k) (w := fun k => Te A st (swp lb c q) (c + 1) i k) (d := dt A (Sx st c) (Px lb c)) x1 hD0 (rg_n hDb (by decide)) (fun k hk2 => by rw [x2 i (by omega) k hk2, if_neg (by omega)]) hrow (fun k _ => by rw [← hPx]; exact T3 i k e) (fun k hk2 => by
            have a1 := (hTb' c c hcm' (by omega)).2 hc
            have a2 := (hTb' i k (by omega) hk2).1
            have a3 := (hTb' i c (by omega) (by omega)).2 hc
            have a4 := (hTb' c k hcm' hk2).1
            have m1 := Nat.mul_le_mul a1 a2
            have m2 := Nat.mul_le_mul a3 a4
            rw [← Int.natAbs_mul] at m1 m2
            refine ⟨by omega, by omega⟩)
          have hb : (fun a : Int32 × px_L => f_X4_eliminate_83 sh M a.2 R' (nI c) a.1) (nI i, Lx) = some (.inl (nI (i + 1), L2)) := by
            show f_X4_eliminate_83 sh M Lx R' (nI c) (nI i) = _
            unfold f_X4_eliminate_83 f_X4_eliminate_105
            rw [h16, if_neg (nI_ge (show i < m by omega) (by omega)), if_neg (nI_eq' (by omega) (by omega) e), y1, bd1_e, nI_1]
          rw [lpf_go hb]
          obtain ⟨w1, w2, w3⟩ := hP'.1 i (by omega)
          refine ih (i + 1) L2 (by omega) (by rw [y3 40 18 (by omega)]; exact x1) (fun j hj k hk2 => ?_) (fun a j ha => by rw [y3 a j (by omega)]; exact x3 a j ha)
          by_cases e3 : j = i
          · subst e3
            rw [y2 k hk2, if_pos (by omega)]
          · rw [y3 _ _ (fun z => e3 (hP'.2 j i (by omega) (by omega) z)), x2 j hj k hk2]
            by_cases e4 : j < i
            · rw [if_pos e4, if_pos (by omega)]
            · rw [if_neg e4, if_neg (by omega)]
    obtain ⟨Ly, z1, z2, z3⟩ := K m 0 L (by omega) h18 (fun j hj k hk2 => by rw [hT' j hj k hk2, if_neg (by omega)]) (fun _ _ _ => rfl)
    have hD1 : Ly (swp bb c q c) c = lI (dt A (Sx st (c + 1)) (Px (swp lb c q) (c + 1))) := by
      rw [z2 c hcm' c (by omega), T2]
      unfold Te
      rw [if_neg (by omega)]
      rfl
    obtain ⟨w1, w2, w3⟩ := hP'.1 c (by omega)
    refine ⟨px_u Ly 40 18 (lI (dt A (Sx st (c + 1)) (Px (swp lb c q) (c + 1)))), R', swp lb c q, swp bb c q, ?_, hcm', ⟨hP', hlb', T1, px_u_in _ _ _ _, fun i hi k hk2 => ?_⟩, fun r => ?_, fun a j ha hn => ?_, fun a j ha => ?_⟩
    · unfold f_X4_eliminate_7
      rw [h17, if_neg (nI_ge hc (by omega)), F1, bd1_e, h16, if_pos (nI_lt q2 (by omega)), ok_t (ix_k (show q < 12 by omega) (by decide)), nI_clamp (show q < 2 ^ 31 by omega), p1, bd1_e, ok_t (ix_k (show c < 12 by omega) (by decide)), nI_clamp (show c < 2 ^ 31 by omega), c1, bd1_e, ok_t (ix_k (show q < 12 by omega) (by decide)), ok_t (hk_t hbc), nm_u, ok_t (ix_k (show c < 12 by omega) (by decide)), ok_t (hk_t hbq), nm_u, ← eR', show ((0, L) : Int32 × px_L) = (nI 0, L) from rfl, z1, bd1_e, ok_t (ix_k (show c < 12 by omega) (by decide)), w1, bd1_e, ok_t (xk_t (hh _ w2 w3) (ix_k (show c < 7 by omega) (by decide))), nm_u, hD1, nm_u, nI_1]
    · obtain ⟨w1, w2, w3⟩ := hP'.1 i (by omega)
      rw [pu_n (by omega), z2 i hi k hk2]
    · unfold swp
      constructor
      · rintro ⟨i, i1, i2⟩
        by_cases e1 : i = c
        · rw [if_pos e1] at i2; exact ⟨q, q2, i2⟩
        · rw [if_neg e1] at i2
          by_cases e2 : i = q
          · rw [if_pos e2] at i2; exact ⟨c, hcm', i2⟩
          · rw [if_neg e2] at i2; exact ⟨i, i1, i2⟩
      · rintro ⟨i, i1, i2⟩
        by_cases e1 : i = c
        · subst e1
          by_cases e2 : q = i
          · exact ⟨i, i1, by rw [if_pos rfl, e2]; exact i2⟩
          · exact ⟨q, q2, by rw [if_neg e2, if_pos rfl]; exact i2⟩
        · by_cases e2 : i = q
          · exact ⟨c, hcm', by rw [if_pos rfl, ← e2]; exact i2⟩
          · exact ⟨i, i1, by rw [if_neg e1, if_neg e2]; exact i2⟩
    · rw [pu_n hn]; exact z3 a j ha
    · rw [eR', pu_n (fun z => ha z.1), pu_n (fun z => ha z.1)]
end CELIM
