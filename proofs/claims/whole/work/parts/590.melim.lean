/-! the reference eliminates: its rows are the determinants' rows, shortened -/
theorem idx_ne {x r : Nat} {P : List Nat} (h : x ≠ r) : (r :: P).idxOf x = P.idxOf x + 1 := by
  rw [List.idxOf_cons]
  have : (r == x) = false := by simp; exact fun z => h z.symm
  rw [this]
  rfl
section MELIM
variable {A : Nat → Nat → Int} {st : Nat}
noncomputable def Vv (A : Nat → Nat → Int) (st c : Nat) (P : List Nat) (x k : Nat) : Int := if x ∈ P then Uj A (Sx st c) P (P.idxOf x) k else dt A (k :: Sx st c) (x :: P)
theorem Vv_step {c r : Nat} {P : List Nat} (hp : PC A P (Sx st c)) (hr : ¬ r ∈ P) (hL : Vv A st c P r (kap st c) ≠ 0) : PC A (r :: P) (Sx st (c + 1)) ∧ (∀ k, Vv A st (c + 1) (r :: P) r k = Vv A st c P r k) ∧ ∀ x k, x ≠ r → dt A (Sx st c) P * Vv A st (c + 1) (r :: P) x k = Vv A st c P r (kap st c) * Vv A st c P x k - Vv A st c P x (kap st c) * Vv A st c P r k := by
  have hW : ∀ k, Vv A st c P r k = dt A (k :: Sx st c) (r :: P) := fun k => if_neg hr
  rw [hW] at hL
  refine ⟨⟨hp, hL⟩, fun k => ?_, fun x k hx => ?_⟩
  · rw [hW]
    unfold Vv
    rw [if_pos List.mem_cons_self, List.idxOf_cons_self]
    exact U_new A (Sx st c) P r (kap st c) k
  · rw [hW, hW]
    by_cases e : x ∈ P
    · have hj : P.idxOf x < P.length := List.idxOf_lt_length_of_mem e
      unfold Vv
      rw [if_pos (List.mem_cons_of_mem _ e), if_pos e, if_pos e, idx_ne hx]
      exact st_u A hp hL (by rw [← PC_len A hp]; exact hj) k
    · unfold Vv
      rw [if_neg (fun z => by
        rcases List.mem_cons.mp z with z | z
        · exact hx z
        · exact e z), if_neg e, if_neg e]
      exact st_w A hp hL x k
theorem Vv_b (hk : ∀ k, k < 6 → Spa A k) (h6 : ∀ x, (A x 6).natAbs ≤ 100) (hst : st < 64) {c : Nat} (hcn : c ≤ (cl st).length) {P : List Nat} (hnd : P.Nodup) (hpl : P.length = c) (x : Nat) {k : Nat} (hk2 : k ≤ 6) : (c ≤ 5 → (Vv A st c P x k).natAbs ≤ 4680000000 ∧ (k < 6 → (Vv A st c P x k).natAbs ≤ 312000000)) ∧ (k = 6 → (Vv A st c P x k).natAbs ≤ 218400000000 ∧ (x ∈ P → (Vv A st c P x k).natAbs ≤ 4680000000)) := by
  have hS6 := Sx_6 hst hcn
  have hl6 := (cl_t st hst).2.1
  by_cases e : x ∈ P
  · have hj : P.idxOf x < P.length := List.idxOf_lt_length_of_mem e
    have hV : Vv A st c P x k = (-1) ^ (P.idxOf x) * dt A (k :: (Sx st c).eraseIdx (P.idxOf x)) P := by
      unfold Vv
      rw [if_pos e]
      rfl
    have hsg : (Vv A st c P x k).natAbs = (dt A (k :: (Sx st c).eraseIdx (P.idxOf x)) P).natAbs := by
      rw [hV, Int.natAbs_mul, Int.natAbs_pow]
      simp
    have hel : ((Sx st c).eraseIdx (P.idxOf x)).length = c - 1 := by
      rw [List.length_eraseIdx, Sx_len, if_pos (by omega)]
    have he6 : ∀ s, s ∈ (Sx st c).eraseIdx (P.idxOf x) → s < 6 := fun s hs => hS6 s (List.mem_of_mem_eraseIdx hs)
    rw [hsg]
    by_cases ek : k = 6
    · subst ek
      have h1 := dt_rhs hk h6 (m := c - 1) (by omega) hel he6 (by omega) hnd
      have h2 := bnd_5 (m := c - 1) (by omega)
      have h3 : (c - 1 + 1) * (100 * bnd (c - 1)) ≤ 6 * (100 * 7800000) := Nat.mul_le_mul (by omega) (Nat.mul_le_mul (Nat.le_refl _) h2)
      exact ⟨fun _ => ⟨by omega, fun h => absurd h (by omega)⟩, fun _ => ⟨by omega, fun _ => by omega⟩⟩
    · refine ⟨fun hc => ?_, fun h => absurd h ek⟩
      have h1 := dt_bd hk c (k :: (Sx st c).eraseIdx (P.idxOf x)) P (by omega) (by rw [List.length_cons, hel]; omega) (fun s hs => by
        rcases List.mem_cons.mp hs with rfl | hs
        · omega
        · exact he6 s hs) hpl hnd
      have h2 := bnd_le (m := c) (by omega)
      exact ⟨by omega, fun _ => by omega⟩
  · have hV : Vv A st c P x k = dt A (k :: Sx st c) (x :: P) := if_neg e
    have hnd1 : (x :: P).Nodup := List.nodup_cons.mpr ⟨e, hnd⟩
    rw [hV]
    by_cases ek : k = 6
    · subst ek
      have h1 := dt_rhs hk h6 (m := c) (by omega) (Sx_len st c) hS6 (by rw [List.length_cons, hpl]) hnd1
      have h4 : (c + 1) * (100 * bnd c) ≤ 7 * (100 * 312000000) := Nat.mul_le_mul (by omega) (Nat.mul_le_mul (Nat.le_refl _) (bnd_le (by omega)))
      refine ⟨fun hc => ⟨?_, fun h => absurd h (by omega)⟩, fun _ => ⟨by omega, fun h => absurd h e⟩⟩
      have h3 : (c + 1) * (100 * bnd c) ≤ 6 * (100 * 7800000) := Nat.mul_le_mul (by omega) (Nat.mul_le_mul (Nat.le_refl _) (bnd_5 hc))
      omega
    · refine ⟨fun hc => ?_, fun h => absurd h ek⟩
      have h1 := dt_bd hk (c + 1) (k :: Sx st c) (x :: P) (by omega) (by rw [List.length_cons, Sx_len]) (fun s hs => by
        rcases List.mem_cons.mp hs with rfl | hs
        · omega
        · exact hS6 s hs) (by rw [List.length_cons, hpl]) hnd1
      have h2 := bnd_le (m := c + 1) (by omega)
      exact ⟨by omega, fun _ => by omega⟩
def col (st k : Nat) : Prop := k = 6 ∨ (k < 6 ∧ st.testBit k = true)
def PrI (A : Nat → Nat → Int) (st c : Nat) (P : List Nat) (x : Nat) (t : Nat → Int) : Prop := ∃ a b : Int, a ≠ 0 ∧ b ≠ 0 ∧ ∀ k, col st k → b * Vv A st c P x k = a * t k
def RwI (A : Nat → Nat → Int) (st x : Nat) (t : Nat → Int) : Prop := (∀ k, k < 7 → t k = A x k) ∨ (gF t 7 ≤ 1 ∧ ∀ k, k < 7 → ¬ col st k → t k = 0)
theorem row_b (hk : ∀ k, k < 6 → Spa A k) (h6 : ∀ x, (A x 6).natAbs ≤ 100) (hst : st < 64) {c : Nat} (hcn : c ≤ (cl st).length) {P : List Nat} (hnd : P.Nodup) (hpl : P.length = c) {x : Nat} {t : Nat → Int} (hp : PrI A st c P x t) (hs : RwI A st x t) {k : Nat} (hk2 : k ≤ 6) : (c ≤ 5 → (t k).natAbs ≤ 4680000000 ∧ (k < 6 → (t k).natAbs ≤ 312000000)) ∧ (k = 6 → (t k).natAbs ≤ 218400000000 ∧ (x ∈ P → (t k).natAbs ≤ 4680000000)) := by
  rcases hs with h | ⟨h1, h2⟩
  · rw [h k (by omega)]
    by_cases e : k = 6
    · subst e
      have := h6 x
      exact ⟨fun _ => ⟨by omega, fun z => absurd z (by omega)⟩, fun _ => ⟨by omega, fun _ => by omega⟩⟩
    · have := (hk k (by omega)).1 x
      exact ⟨fun _ => ⟨by omega, fun _ => by omega⟩, fun z => absurd z e⟩
  · by_cases hc : col st k
    · obtain ⟨a, b, a0, b0, hab⟩ := hp
      have hb := Vv_b hk h6 hst hcn hnd hpl x hk2
      have hle := prim_le (T := t) (W := fun k => @ite Int (col st k) (Classical.propDecidable _) (Vv A st c P x k) 0) (n := 7) h1 a0 b0 (fun j hj => by
        by_cases q : col st j
        · show b * (@ite Int _ (Classical.propDecidable _) _ _) = _
          rw [if_pos q]; exact hab j q
        · show b * (@ite Int _ (Classical.propDecidable _) _ _) = _
          rw [if_neg q, h2 j hj q, Int.mul_zero, Int.mul_zero]) (k := k) (by omega)
      have e : (@ite Int (col st k) (Classical.propDecidable _) (Vv A st c P x k) 0) = Vv A st c P x k := if_pos hc
      have hle' : (t k).natAbs ≤ (Vv A st c P x k).natAbs := by
        rw [← e]; exact hle
      exact ⟨fun q => ⟨by have := (hb.1 q).1; omega, fun z => by have := (hb.1 q).2 z; omega⟩, fun q => ⟨by have := (hb.2 q).1; omega, fun z => by have := (hb.2 q).2 z; omega⟩⟩
    · rw [h2 k (by omega) hc]
      exact ⟨fun _ => ⟨by decide, fun _ => by decide⟩, fun _ => ⟨by decide, fun _ => by decide⟩⟩
end MELIM
section MELIM2
variable {sh : px_Sh} {M : px_M} {R : px_R} {A : Nat → Nat → Int} {st : Nat}
/-- one row against the pivot's -/
theorem m_one (hS : SR sh R) (hst : st < 64) {x r s : Nat} (hx : x < 12) (hr : r < 12) (hxr : x ≠ r) (hs : s < 6) {L : px_L} {t u : Nat → Int} (ht : ∀ k, k < 7 → L (200 + x) k = lI (t k)) (hu : ∀ k, k < 7 → L (200 + r) k = lI (u k)) (hp : u s ≠ 0) (hf : t s ≠ 0) (b1 : (u s).natAbs ≤ 312000000) (b2 : (t s).natAbs ≤ 312000000) (b3 : ∀ k, k < 7 → (t k).natAbs ≤ 4680000000) (b4 : ∀ k, k < 7 → (u k).natAbs ≤ 4680000000) (v87 : Int32) :
    ∃ L' w g, f_X12_solves_100 sh M L R (nI st) v87 (nI s) (nI r) (nI x) = some (.inl (nI (x + 1), L')) ∧ (∀ k, k < 7 → L' (200 + x) k = lI (w k)) ∧ (∀ a j, a ≠ 200 + x → L' a j = L a j) ∧ gF w 7 ≤ 1 ∧ g ≠ 0 ∧ (∀ k, k < 7 → ¬ col st k → w k = 0) ∧ ∀ k, k < 7 → col st k → u s * t k - t s * u k = g * w k := by
  obtain ⟨r1, r2⟩ := R199 hS hr
  obtain ⟨x1, x2⟩ := R199 hS hx
  obtain ⟨d, ed⟩ : ∃ d : Nat, d = Nat.gcd (u s).natAbs (t s).natAbs := ⟨_, rfl⟩
  have hd0 : 0 < d := by rw [ed]; exact Nat.gcd_pos_of_pos_left _ (by omega)
  have hdu : (d : Int) ∣ u s := Int.natAbs_dvd_natAbs.mp (by rw [ed]; exact Nat.gcd_dvd_left _ _)
  have hdt : (d : Int) ∣ t s := Int.natAbs_dvd_natAbs.mp (by rw [ed]; exact Nat.gcd_dvd_right _ _)
  have eu : u s = d * (u s).tdiv d := (Int.mul_tdiv_cancel' hdu).symm
  have et : t s = d * (t s).tdiv d := (Int.mul_tdiv_cancel' hdt).symm
  have hdl : d ≤ 312000000 := by
    have := Nat.le_of_dvd (show 0 < (u s).natAbs by omega) (show d ∣ (u s).natAbs by rw [ed]; exact Nat.gcd_dvd_left _ _)
    omega
  have rd : rg (d : Int) := ⟨by omega, by omega⟩
  have ru : rg (u s) := rg_n b1 (by decide)
  have rt : rg (t s) := rg_n b2 (by decide)
  have q1 := Int.natAbs_tdiv_le_natAbs (u s) d
  have q2 := Int.natAbs_tdiv_le_natAbs (t s) d
  obtain ⟨N, eN⟩ : ∃ N : Nat → Int, ∀ k, N k = @ite Int (col st k) (Classical.propDecidable _) ((u s).tdiv d * t k - (t s).tdiv d * u k) 0 := ⟨_, fun _ => rfl⟩
  have Nc : ∀ k, col st k → N k = (u s).tdiv d * t k - (t s).tdiv d * u k := fun k h => by rw [eN]; exact if_pos h
  have Nn : ∀ k, ¬ col st k → N k = 0 := fun k h => by rw [eN]; exact if_neg h
  have rN : ∀ k, k < 7 → rg (N k) := by
    intro k hk
    by_cases h : col st k
    · rw [Nc k h]
      have m1 := Nat.mul_le_mul (Nat.le_trans q1 b1) (b3 k hk)
      have m2 := Nat.mul_le_mul (Nat.le_trans q2 b2) (b4 k hk)
      rw [← Int.natAbs_mul] at m1 m2
      exact ⟨by omega, by omega⟩
    · rw [Nn k h]; exact rg0
  have hne : 200 + r ≠ 200 + x := by omega
  have K := lpf_for (body := fun a : Int32 × px_L => f_X12_solves_168 sh M a.2 R (nI st) v87 (nI s) (nI r) (nI x) (lI (u s)) (lI (t s)) (lI d) a.1) (fun k (L' : px_L) => (nI k, L')) (fun k L' => px_u L' (200 + x) k (lI (N k))) (fun k L' => (∀ j, j < k → L' (200 + x) j = lI (N j)) ∧ (∀ j, k ≤ j → j < 7 → L' (200 + x) j = lI (t j)) ∧ ∀ a j, a ≠ 200 + x → L' a j = L a j) (fun L' => L') 7
    (fun k L' hk hP => by
      obtain ⟨P1, P2, P3⟩ := hP
      have er : L' (200 + r) k = lI (u k) := by rw [P3 _ _ hne]; exact hu k hk
      refine ⟨?_, fun j hj => ?_, fun j j1 j2 => ?_, fun a j ha => ?_⟩
      · show f_X12_solves_168 sh M L' R (nI st) v87 (nI s) (nI r) (nI x) (lI (u s)) (lI (t s)) (lI d) (nI k) = _
        have e201 : f_X12_solves_201 sh M L' R (nI st) v87 (nI s) (nI r) (nI x) (lI (u s)) (lI (t s)) (lI d) (nI k) (nI k) (200 + x) = some (.inl (nI (k + 1), px_u L' (200 + x) k (lI ((u s).tdiv d * t k - (t s).tdiv d * u k)))) := by
          unfold f_X12_solves_201 f_X12_solves_238
          have hnz : nz (lI (d : Int)) 0 = true := lc_nz rd (by omega)
          rw [ok_t hnz, ok_t (ix_k hx (by decide)), nI_clamp (show x < 2 ^ 31 by omega), x1, bd1_e, ok_t (xk_t x2 (ix_k hk (by decide))), ok_t hnz, ok_t (ix_k hr (by decide)), nI_clamp (show r < 2 ^ 31 by omega), r1, bd1_e, ok_t (xk_t r2 (ix_k hk (by decide))), nI_clamp (show k < 2 ^ 31 by omega), P2 k (Nat.le_refl _) hk, er, lI_div ru rd, lI_div rt rd, lI_ms, ok_t (xk_t x2 (ix_k hk (by decide))), nm_u, nI_1]
        unfold f_X12_solves_168
        rw [if_neg (show ¬ 7 ≤ nI k from nI_ge (b := 7) hk (by decide)), ok_t (ix_k hx (by decide)), nI_clamp (show x < 2 ^ 31 by omega), x1, bd1_e, e201, ifi (bit_iff (show st < 2 ^ 31 by omega) (show k < 32 by omega)), ifi (eqL (a := k) (b := 6) 6 rfl (by omega) (by decide))]
        by_cases hb : st.testBit k = true
        · have hc : col st k := by
            by_cases e6 : k = 6
            · exact Or.inl e6
            · exact Or.inr ⟨by omega, hb⟩
          rw [if_pos hb, Nc k hc]
        · rw [if_neg hb]
          by_cases e6 : k = 6
          · rw [if_pos e6, Nc k (Or.inl e6)]
          · rw [if_neg e6, Nn k (fun z => by
              rcases z with z | z
              · exact e6 z
              · exact hb z.2)]
            unfold f_X12_solves_238
            rw [ok_t (xk_t x2 (ix_k hk (by decide))), nI_clamp (show k < 2 ^ 31 by omega), nm_u, nI_1]
            rfl
      · by_cases e : j = k
        · subst e; exact px_u_in _ _ _ _
        · rw [pu_n (fun z => e z.2)]; exact P1 j (by omega)
      · rw [pu_n (by omega)]; exact P2 j (by omega) j2
      · rw [pu_n (fun z => ha z.1)]; exact P3 a j ha)
    (fun L' _ => by
      show f_X12_solves_168 sh M L' R (nI st) v87 (nI s) (nI r) (nI x) (lI (u s)) (lI (t s)) (lI d) (nI 7) = _
      unfold f_X12_solves_168
      rw [if_pos (by decide)]) 7 0 L (by omega) ⟨fun j hj => absurd hj (by omega), fun j _ j2 => ht j j2, fun _ _ _ => rfl⟩
  obtain ⟨K1, K2, -, K3⟩ := K
  obtain ⟨L1, eL1⟩ : ∃ L1, L1 = fld (fun k (L' : px_L) => px_u L' (200 + x) k (lI (N k))) 0 7 L := ⟨_, rfl⟩
  rw [← eL1] at K1 K2 K3
  obtain ⟨L2, w, g, g1, g2, g3, g4, g5, g6⟩ := m_shorten x2 K2 rN
  refine ⟨L2, w, d * g, ?_, g2, fun a j ha => (g3 a j ha).trans (K3 a j ha), g4, ?_, fun k hk hc => ?_, fun k hk hc => ?_⟩
  · unfold f_X12_solves_100 f_X12_solves_256
    rw [if_neg (show ¬ 12 ≤ nI x from nI_ge (b := 12) hx (by decide)), if_neg (nI_eq' (by omega) (by omega) hxr), ok_t (ix_k hx (by decide)), nI_clamp (show x < 2 ^ 31 by omega), x1, bd1_e, ok_t (xk_t x2 (ix_k (show s < 7 by omega) (by decide))), nI_clamp (show s < 2 ^ 31 by omega), ht s (by omega), if_neg (fun z => hf ((lc_0 rt).mp z)), ok_t (ix_k hr (by decide)), nI_clamp (show r < 2 ^ 31 by omega), r1, bd1_e, ok_t (xk_t r2 (ix_k (show s < 7 by omega) (by decide))), nm_u, hu s (by omega), ok_t (ix_k hx (by decide)), bd1_e, ok_t (xk_t x2 (ix_k (show s < 7 by omega) (by decide))), nm_u, ht s (by omega), m_div ru rt, bd1_e, ← ed, show ((0, L) : Int32 × px_L) = (nI 0, L) from rfl, K1, bd1_e, ok_t (ix_k hx (by decide)), bd1_e, g1, bd1_e, nI_1]
  · intro z
    rcases Int.mul_eq_zero.mp z with z | z
    · omega
    · exact g5 z
  · have := g6 k hk
    rw [Nn k hc] at this
    exact (Int.mul_eq_zero.mp this.symm).resolve_left g5
  · have h1 := g6 k hk
    rw [Nc k hc] at h1
    rw [Int.mul_assoc, ← h1]
    generalize (u s).tdiv d = pp at *
    generalize (t s).tdiv d = ff at *
    rw [eu, et]
    grind
end MELIM2
