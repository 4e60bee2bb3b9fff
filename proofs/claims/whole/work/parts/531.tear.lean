/-! a day of all panels: lives and dust -/
def LV (rho nine v3 v4 v5 v6 v7 w3 w4 w5 w6 w7 : Int32) : Prop := w5 = v5 ∧ (v5 = 0 → w3 = l3 nine v3 ∧ w4 = l4 nine v3 v4 ∧ w6 = l6 rho v4 v6 v7 ∧ w7 = l7 rho v4 v7) ∧ (v5 ≠ 0 → w3 = v3 ∧ w4 = v4 ∧ w6 = v6 ∧ w7 = v7)
theorem LV.uniq {rho nine v3 v4 v5 v6 v7 w3 w4 w5 w6 w7 x3 x4 x5 x6 x7 : Int32} (h : LV rho nine v3 v4 v5 v6 v7 w3 w4 w5 w6 w7) (g : LV rho nine v3 v4 v5 v6 v7 x3 x4 x5 x6 x7) : w3 = x3 ∧ w4 = x4 ∧ w5 = x5 ∧ w6 = x6 ∧ w7 = x7 := by
  obtain ⟨h1, h2, h3⟩ := h
  obtain ⟨g1, g2, g3⟩ := g
  refine ⟨?_, ?_, h1.trans g1.symm, ?_, ?_⟩ <;> by_cases q : v5 = 0
  · exact (h2 q).1.trans (g2 q).1.symm
  · exact (h3 q).1.trans (g3 q).1.symm
  · exact (h2 q).2.1.trans (g2 q).2.1.symm
  · exact (h3 q).2.1.trans (g3 q).2.1.symm
  · exact (h2 q).2.2.1.trans (g2 q).2.2.1.symm
  · exact (h3 q).2.2.1.trans (g3 q).2.2.1.symm
  · exact (h2 q).2.2.2.trans (g2 q).2.2.2.symm
  · exact (h3 q).2.2.2.trans (g3 q).2.2.2.symm
/-- the class's panels -/
def PaC (sh : px_Sh) (M : px_M) (R : px_R) (np : Nat) (pa : Nat → Nat) : Prop := np ≤ 16 ∧ M 6 1 = nI np ∧ (∀ i, i < np → R 7 i = some (pa i) ∧ sh (pa i) = some (5, 0) ∧ 220 ≤ pa i) ∧ ∀ i j, i < np → j < np → pa i = pa j → i = j
section TEAR
variable {sh : px_Sh} {M : px_M} {R : px_R} {np d r nd : Nat} {pa : Nat → Nat}
theorem c_lives (hP : PaC sh M R np pa) (hd : d ≤ 2000) (hr : r ≤ 255) (h0 : M 14 0 = nI d) (h1 : M 14 1 = nI r) (h6 : ∀ i, i < np → 0 ≤ M (pa i) 6 ∧ M (pa i) 6 ≤ 2) (x3 x5 : Int32) :
    ∃ M', lpf (fun a : Int32 × px_M => f_X9_flyDay_96 sh a.2 R x3 x5 a.1) (0, M) = some M' ∧ (∀ c j, (∀ i, i < np → c ≠ pa i) → M' c j = M c j) ∧ (∀ c j, ¬ (j = 3 ∨ j = 4 ∨ j = 6 ∨ j = 7) → M' c j = M c j) ∧ ∀ i, i < np → LV (nI r) (bI (d % 10 = 9)) (M (pa i) 3) (M (pa i) 4) (M (pa i) 5) (M (pa i) 6) (M (pa i) 7) (M' (pa i) 3) (M' (pa i) 4) (M' (pa i) 5) (M' (pa i) 6) (M' (pa i) 7) := by
  obtain ⟨p1, p2, p3, p4⟩ := hP
  have nine : (nI d - nI d / 10 * 10 = 9) ↔ d % 10 = 9 := by
    rw [show (10 : Int32) = nI 10 from rfl, pk_rem (by omega) (by decide) (by decide), show (9 : Int32) = nI 9 from rfl, nI_eq (by omega) (by decide)]
  have loop : ∀ (m k : Nat) (Mx : px_M), k + m = np → (∀ c j, (∀ i, i < k → c ≠ pa i) → Mx c j = M c j) → (∀ c j, ¬ (j = 3 ∨ j = 4 ∨ j = 6 ∨ j = 7) → Mx c j = M c j) → (∀ i, i < k → LV (nI r) (bI (d % 10 = 9)) (M (pa i) 3) (M (pa i) 4) (M (pa i) 5) (M (pa i) 6) (M (pa i) 7) (Mx (pa i) 3) (Mx (pa i) 4) (Mx (pa i) 5) (Mx (pa i) 6) (Mx (pa i) 7)) →
      ∃ M', lpf (fun a : Int32 × px_M => f_X9_flyDay_96 sh a.2 R x3 x5 a.1) (nI k, Mx) = some M' ∧ (∀ c j, (∀ i, i < np → c ≠ pa i) → M' c j = M c j) ∧ (∀ c j, ¬ (j = 3 ∨ j = 4 ∨ j = 6 ∨ j = 7) → M' c j = M c j) ∧ ∀ i, i < np → LV (nI r) (bI (d % 10 = 9)) (M (pa i) 3) (M (pa i) 4) (M (pa i) 5) (M (pa i) 6) (M (pa i) 7) (M' (pa i) 3) (M' (pa i) 4) (M' (pa i) 5) (M' (pa i) 6) (M' (pa i) 7) := by
    intro m
    induction m with
    | zero =>
      intro k Mx hk q1 q2 q3
      obtain rfl : k = np := by omega
      refine ⟨Mx, lpf_end ?_, q1, q2, q3⟩
      show f_X9_flyDay_96 sh Mx R x3 x5 (nI k) = _
      unfold f_X9_flyDay_96
      rw [q2 6 1 (by omega), p2, if_pos (Int32.le_refl _)]
    | succ m ih =>
      intro k Mx hk q1 q2 q3
      obtain ⟨k1, k2, k3⟩ := p3 k (by omega)
      have hx : ix (nI k) 16 = true := ix_k (show k < 16 by omega) (by decide)
      have own : ∀ j, Mx (pa k) j = M (pa k) j := fun j => q1 _ _ (fun i hi z => by have := p4 k i (by omega) (by omega) z; omega)
      have old14 : ∀ j, Mx 14 j = M 14 j := fun j => q1 _ _ (fun i hi z => by have := (p3 i (by omega)).2.2; omega)
      have step : ∃ My, f_X9_flyDay_96 sh Mx R x3 x5 (nI k) = some (.inl (nI (k + 1), My)) ∧ (∀ c j, ¬ (c = pa k ∧ (j = 3 ∨ j = 4 ∨ j = 6 ∨ j = 7)) → My c j = Mx c j) ∧ LV (nI r) (bI (d % 10 = 9)) (M (pa k) 3) (M (pa k) 4) (M (pa k) 5) (M (pa k) 6) (M (pa k) 7) (My (pa k) 3) (My (pa k) 4) (My (pa k) 5) (My (pa k) 6) (My (pa k) 7) := by
        unfold f_X9_flyDay_96 f_X9_flyDay_146 f_X9_flyDay_149
        rw [q2 6 1 (by omega), p2, if_neg (nI_ge (by omega) (by omega)), ok_t hx, nI_clamp (show k < 2 ^ 31 by omega), k1, bd1_e, ok_t (hk_t k2), own 5, nI_1]
        by_cases q : M (pa k) 5 = 0
        · rw [if_pos q, ok_t hx, bd1_e, old14 0, h0, ifi nine, old14 1, h1, ok_t (hk_t k2), ok_t (hk_t k2)]
          obtain ⟨My, g1, g2, g3, g4, g5, g6⟩ := c_live (M := Mx) k2 (nI r) (bI (d % 10 = 9)) (nI_pos' (by omega)) (nz32 hr) (by rw [own 6]; exact h6 k (by omega))
          rw [own 3] at g3
          rw [own 3, own 4] at g4
          rw [own 4, own 6, own 7] at g5
          rw [own 4, own 7] at g6
          refine ⟨My, ?_, g2, ?_, fun _ => ⟨g3, g4, g5, g6⟩, fun z => absurd q z⟩
          · by_cases e : d % 10 = 9
            · rw [bI_t e] at g1
              rw [if_pos e, g1, bd1_e]
            · rw [bI_f e] at g1
              rw [if_neg e, g1, bd1_e]
          · rw [g2 _ 5 (by omega), own 5]
        · rw [if_neg q]
          exact ⟨Mx, rfl, fun _ _ _ => rfl, own 5, fun z => absurd z q, fun _ => ⟨own 3, own 4, own 6, own 7⟩⟩
      obtain ⟨My, g1, g2, g3⟩ := step
      rw [lpf_go (body := fun a : Int32 × px_M => f_X9_flyDay_96 sh a.2 R x3 x5 a.1) (a := (nI k, Mx)) g1]
      refine ih (k + 1) My (by omega) (fun c j hc => ?_) (fun c j hj => ?_) (fun i hi => ?_)
      · rw [g2 c j (fun z => hc k (by omega) z.1)]; exact q1 c j (fun i hi => hc i (by omega))
      · rw [g2 c j (fun z => hj z.2)]; exact q2 c j hj
      · by_cases e : i = k
        · subst e; exact g3
        · have hne : pa i ≠ pa k := fun z => e (p4 i k (by omega) (by omega) z)
          rw [g2 _ 3 (fun z => hne z.1), g2 _ 4 (fun z => hne z.1), g2 _ 5 (fun z => hne z.1), g2 _ 6 (fun z => hne z.1), g2 _ 7 (fun z => hne z.1)]
          exact q3 i (by omega)
  exact loop np 0 M (by omega) (fun _ _ _ => rfl) (fun _ _ _ => rfl) (fun i hi => absurd hi (by omega))
theorem m_lives (hnp : np ≤ 16) (hd : d ≤ 2000) (hr : r ≤ 255) (h9 : M 73 9 = nI np) (h24 : M 73 24 = nI d) (h25 : M 73 25 = nI r) (x1 x2 : Int32) :
    ∃ M', lpf (fun a : Int32 × px_M => f_X12_flyDay_125 a.2 x1 x2 a.1) (0, M) = some M' ∧ (∀ c j, ¬ ((c = 82 ∨ c = 83 ∨ c = 84 ∨ c = 85) ∧ j < np) → M' c j = M c j) ∧ ∀ i, i < np → LV (nI r) (bI (d % 10 = 9)) (M 82 i) (M 83 i) (M 86 i) (M 84 i) (M 85 i) (M' 82 i) (M' 83 i) (M' 86 i) (M' 84 i) (M' 85 i) := by
  have loop : ∀ (m k : Nat) (Mx : px_M), k + m = np → (∀ c j, ¬ ((c = 82 ∨ c = 83 ∨ c = 84 ∨ c = 85) ∧ j < k) → Mx c j = M c j) → (∀ i, i < k → LV (nI r) (bI (d % 10 = 9)) (M 82 i) (M 83 i) (M 86 i) (M 84 i) (M 85 i) (Mx 82 i) (Mx 83 i) (Mx 86 i) (Mx 84 i) (Mx 85 i)) →
      ∃ M', lpf (fun a : Int32 × px_M => f_X12_flyDay_125 a.2 x1 x2 a.1) (nI k, Mx) = some M' ∧ (∀ c j, ¬ ((c = 82 ∨ c = 83 ∨ c = 84 ∨ c = 85) ∧ j < np) → M' c j = M c j) ∧ ∀ i, i < np → LV (nI r) (bI (d % 10 = 9)) (M 82 i) (M 83 i) (M 86 i) (M 84 i) (M 85 i) (M' 82 i) (M' 83 i) (M' 86 i) (M' 84 i) (M' 85 i) := by
    intro m
    induction m with
    | zero =>
      intro k Mx hk q1 q2
      obtain rfl : k = np := by omega
      refine ⟨Mx, lpf_end ?_, q1, q2⟩
      show f_X12_flyDay_125 Mx x1 x2 (nI k) = _
      unfold f_X12_flyDay_125
      rw [q1 73 9 (by omega), h9, if_pos (Int32.le_refl _)]
    | succ m ih =>
      intro k Mx hk q1 q2
      obtain ⟨My, g1, g2, g3, g4⟩ := m_live (M := Mx) (i := k) (np := np) (d := d) (r := r) (by omega) hnp hr (by rw [q1 73 9 (by omega)]; exact h9) (by rw [q1 73 25 (by omega)]; exact h25) (by rw [q1 73 24 (by omega)]; exact h24) hd x1 x2
      rw [lpf_go (body := fun a : Int32 × px_M => f_X12_flyDay_125 a.2 x1 x2 a.1) (a := (nI k, Mx)) g1]
      have own : ∀ c, Mx c k = M c k := fun c => q1 c k (by omega)
      refine ih (k + 1) My (by omega) (fun c j hc => ?_) (fun i hi => ?_)
      · rw [g2 c j (by omega)]; exact q1 c j (by omega)
      · by_cases e : i = k
        · subst e
          rw [own 86, own 82, own 83, own 84, own 85] at g3
          refine ⟨by rw [g2 86 i (by omega)]; exact own 86, g3, fun z => ?_⟩
          rw [g4 (by rw [own 86]; exact z)]
          exact ⟨own 82, own 83, own 84, own 85⟩
        · rw [g2 82 i (by omega), g2 83 i (by omega), g2 86 i (by omega), g2 84 i (by omega), g2 85 i (by omega)]
          exact q2 i (by omega)
  exact loop np 0 M (by omega) (fun _ _ _ => rfl) (fun i hi => absurd hi (by omega))
/-- dust of the day d among the first k falls on panel i -/
def hit (dp dd : Nat → Int32) (d k i : Nat) : Prop := ∃ g, g < k ∧ dp g = nI i ∧ dd g = nI d
theorem c_tear (hP : PaC sh M R np pa) (hnd : nd ≤ 20) (h8 : M 14 8 = nI nd) (h0 : M 14 0 = nI d) (hD : ∀ k, k < nd → ∃ p, p < np ∧ M 16 k = nI p) :
    ∃ M', f_X9_tearByDust sh M R = some M' ∧ (∀ c j, ¬ (j = 5 ∧ ∃ i, i < np ∧ c = pa i) → M' c j = M c j) ∧ ∀ i, i < np → (hit (M 16) (M 17) d nd i → M' (pa i) 5 = 1) ∧ (¬ hit (M 16) (M 17) d nd i → M' (pa i) 5 = M (pa i) 5) := by
  obtain ⟨p1, p2, p3, p4⟩ := hP
  have loop : ∀ (m k : Nat) (Mx : px_M), k + m = nd → (∀ c j, ¬ (j = 5 ∧ ∃ i, i < np ∧ c = pa i) → Mx c j = M c j) → (∀ i, i < np → (hit (M 16) (M 17) d k i → Mx (pa i) 5 = 1) ∧ (¬ hit (M 16) (M 17) d k i → Mx (pa i) 5 = M (pa i) 5)) →
      ∃ M', lpf (fun a : Int32 × px_M => f_X9_tearByDust_2 sh a.2 R a.1) (nI k, Mx) = some M' ∧ (∀ c j, ¬ (j = 5 ∧ ∃ i, i < np ∧ c = pa i) → M' c j = M c j) ∧ ∀ i, i < np → (hit (M 16) (M 17) d nd i → M' (pa i) 5 = 1) ∧ (¬ hit (M 16) (M 17) d nd i → M' (pa i) 5 = M (pa i) 5) := by
    intro m
    induction m with
    | zero =>
      intro k Mx hk q1 q2
      obtain rfl : k = nd := by omega
      refine ⟨Mx, lpf_end ?_, q1, q2⟩
      show f_X9_tearByDust_2 sh Mx R (nI k) = _
      unfold f_X9_tearByDust_2
      rw [q1 14 8 (by omega), h8, if_pos (Int32.le_refl _)]
    | succ m ih =>
      intro k Mx hk q1 q2
      have lo : ∀ c j, c < 220 → Mx c j = M c j := fun c j hc => q1 c j (fun ⟨_, i, hi, z⟩ => by have := (p3 i hi).2.2; omega)
      have hx : ix (nI k) 20 = true := ix_k (show k < 20 by omega) (by decide)
      obtain ⟨p, hp, ep⟩ := hD k (by omega)
      obtain ⟨k1, k2, k3⟩ := p3 p hp
      by_cases q : M 17 k = nI d
      · have hw : f_X8_hasPanel Mx (nI p) = some 1 := by
          unfold f_X8_hasPanel
          rcases rng (nI p) (k := np) (by omega) with ⟨w', hw', e, w1, w2⟩ | ⟨z, -, -⟩
          · rw [lo 6 1 (by omega), p2, w1, bd1_e, ok_t zb1]
          · exact absurd rfl (z p hp)
        have hb : f_X9_tearByDust_2 sh Mx R (nI k) = some (.inl (nI (k + 1), px_u Mx (pa p) 5 1)) := by
          unfold f_X9_tearByDust_2 f_X9_tearByDust_51
          rw [lo 14 8 (by omega), h8, if_neg (nI_ge (by omega) (by omega)), ok_t hx, nI_clamp (show k < 2 ^ 31 by omega), lo 17 k (by omega), lo 14 0 (by omega), h0, if_pos q, ok_t hx, lo 16 k (by omega), ep, hw, bd1_e, if_neg (by decide), ok_t hx, nm_u, ok_t (ix_k (show p < 16 by omega) (by decide)), nI_clamp (show p < 2 ^ 31 by omega), k1, bd1_e, ok_t (hk_t k2), nm_u, nI_1]
        rw [lpf_go (body := fun a : Int32 × px_M => f_X9_tearByDust_2 sh a.2 R a.1) (a := (nI k, Mx)) hb]
        refine ih (k + 1) _ (by omega) (fun c j hc => ?_) (fun i hi => ⟨fun hh => ?_, fun hh => ?_⟩)
        · rw [pu_n (fun z => hc ⟨z.2, p, hp, z.1⟩)]; exact q1 c j hc
        · by_cases e : i = p
          · subst e; exact px_u_in _ _ _ _
          · have hne : pa i ≠ pa p := fun z => e (p4 i p hi hp z)
            rw [pu_n (fun z => hne z.1)]
            obtain ⟨g, g1, g2, g3⟩ := hh
            refine (q2 i hi).1 ⟨g, ?_, g2, g3⟩
            have : g ≠ k := fun z => by rw [z, ep] at g2; exact e ((nI_eq (by omega) (by omega)).mp g2).symm
            omega
        · have e : i ≠ p := fun z => hh ⟨k, by omega, by rw [z]; exact ep, q⟩
          have hne : pa i ≠ pa p := fun z => e (p4 i p hi hp z)
          rw [pu_n (fun z => hne z.1)]
          exact (q2 i hi).2 (fun ⟨g, g1, g2⟩ => hh ⟨g, by omega, g2⟩)
      · have hb : f_X9_tearByDust_2 sh Mx R (nI k) = some (.inl (nI (k + 1), Mx)) := by
          unfold f_X9_tearByDust_2 f_X9_tearByDust_51
          rw [lo 14 8 (by omega), h8, if_neg (nI_ge (by omega) (by omega)), ok_t hx, nI_clamp (show k < 2 ^ 31 by omega), lo 17 k (by omega), lo 14 0 (by omega), h0, if_neg q, nI_1]
        rw [lpf_go (body := fun a : Int32 × px_M => f_X9_tearByDust_2 sh a.2 R a.1) (a := (nI k, Mx)) hb]
        refine ih (k + 1) _ (by omega) q1 (fun i hi => ⟨fun ⟨g, g1, g2, g3⟩ => ?_, fun hh => ?_⟩)
        · have : g ≠ k := fun z => q (by rw [z] at g3; exact g3)
          exact (q2 i hi).1 ⟨g, by omega, g2, g3⟩
        · exact (q2 i hi).2 (fun ⟨g, g1, g2⟩ => hh ⟨g, by omega, g2⟩)
  obtain ⟨M', g1, g2, g3⟩ := loop nd 0 M (by omega) (fun _ _ _ => rfl) (fun i hi => ⟨fun ⟨g, g1, _⟩ => absurd g1 (by omega), fun _ => rfl⟩)
  refine ⟨M', ?_, g2, g3⟩
  unfold f_X9_tearByDust
  rw [show lpf (fun a : Int32 × px_M => f_X9_tearByDust_2 sh a.2 R a.1) (0, M) = _ from g1, bd1_e]
theorem m_tear (hnp : np ≤ 16) (hnd : nd ≤ 20) (h41 : M 73 41 = nI nd) (h24 : M 73 24 = nI d) (hD : ∀ k, k < nd → ∃ p, p < np ∧ M 179 k = nI p) (x1 x2 : Int32) :
    ∃ M', lpf (fun a : Int32 × px_M => f_X12_flyDay_80 a.2 x1 x2 a.1) (0, M) = some M' ∧ (∀ c j, ¬ (c = 86 ∧ j < np) → M' c j = M c j) ∧ ∀ i, i < np → (hit (M 179) (M 180) d nd i → M' 86 i = 1) ∧ (¬ hit (M 179) (M 180) d nd i → M' 86 i = M 86 i) := by
  have loop : ∀ (m k : Nat) (Mx : px_M), k + m = nd → (∀ c j, ¬ (c = 86 ∧ j < np) → Mx c j = M c j) → (∀ i, i < np → (hit (M 179) (M 180) d k i → Mx 86 i = 1) ∧ (¬ hit (M 179) (M 180) d k i → Mx 86 i = M 86 i)) →
      ∃ M', lpf (fun a : Int32 × px_M => f_X12_flyDay_80 a.2 x1 x2 a.1) (nI k, Mx) = some M' ∧ (∀ c j, ¬ (c = 86 ∧ j < np) → M' c j = M c j) ∧ ∀ i, i < np → (hit (M 179) (M 180) d nd i → M' 86 i = 1) ∧ (¬ hit (M 179) (M 180) d nd i → M' 86 i = M 86 i) := by
    intro m
    induction m with
    | zero =>
      intro k Mx hk q1 q2
      obtain rfl : k = nd := by omega
      refine ⟨Mx, lpf_end ?_, q1, q2⟩
      show f_X12_flyDay_80 Mx x1 x2 (nI k) = _
      unfold f_X12_flyDay_80
      rw [q1 73 41 (by omega), h41, if_pos (Int32.le_refl _)]
    | succ m ih =>
      intro k Mx hk q1 q2
      have hx : ix (nI k) 20 = true := ix_k (show k < 20 by omega) (by decide)
      obtain ⟨p, hp, ep⟩ := hD k (by omega)
      by_cases q : M 180 k = nI d
      · have hb : f_X12_flyDay_80 Mx x1 x2 (nI k) = some (.inl (nI (k + 1), px_u Mx 86 p 1)) := by
          unfold f_X12_flyDay_80 f_X12_flyDay_116
          rw [q1 73 41 (by omega), h41, if_neg (nI_ge (by omega) (by omega)), ok_t hx, nI_clamp (show k < 2 ^ 31 by omega), q1 180 k (by omega), q1 73 24 (by omega), h24, if_pos q, ok_t hx, q1 179 k (by omega), ep, ok_t (ix_k (show p < 16 by omega) (by decide)), nI_clamp (show p < 2 ^ 31 by omega), nm_u, nI_1]
        rw [lpf_go (body := fun a : Int32 × px_M => f_X12_flyDay_80 a.2 x1 x2 a.1) (a := (nI k, Mx)) hb]
        refine ih (k + 1) _ (by omega) (fun c j hc => ?_) (fun i hi => ⟨fun hh => ?_, fun hh => ?_⟩)
        · rw [pu_n (by omega)]; exact q1 c j hc
        · by_cases e : i = p
          · subst e; exact px_u_in _ _ _ _
          · rw [pu_n (by omega)]
            obtain ⟨g, g1, g2, g3⟩ := hh
            refine (q2 i hi).1 ⟨g, ?_, g2, g3⟩
            have : g ≠ k := fun z => by rw [z, ep] at g2; exact e ((nI_eq (by omega) (by omega)).mp g2).symm
            omega
        · have e : i ≠ p := fun z => hh ⟨k, by omega, by rw [z]; exact ep, q⟩
          rw [pu_n (by omega)]
          exact (q2 i hi).2 (fun ⟨g, g1, g2⟩ => hh ⟨g, by omega, g2⟩)
      · have hb : f_X12_flyDay_80 Mx x1 x2 (nI k) = some (.inl (nI (k + 1), Mx)) := by
          unfold f_X12_flyDay_80 f_X12_flyDay_116
          rw [q1 73 41 (by omega), h41, if_neg (nI_ge (by omega) (by omega)), ok_t hx, nI_clamp (show k < 2 ^ 31 by omega), q1 180 k (by omega), q1 73 24 (by omega), h24, if_neg q, nI_1]
        rw [lpf_go (body := fun a : Int32 × px_M => f_X12_flyDay_80 a.2 x1 x2 a.1) (a := (nI k, Mx)) hb]
        refine ih (k + 1) _ (by omega) q1 (fun i hi => ⟨fun ⟨g, g1, g2, g3⟩ => ?_, fun hh => ?_⟩)
        · have : g ≠ k := fun z => q (by rw [z] at g3; exact g3)
          exact (q2 i hi).1 ⟨g, by omega, g2, g3⟩
        · exact (q2 i hi).2 (fun ⟨g, g1, g2⟩ => hh ⟨g, by omega, g2⟩)
  exact loop nd 0 M (by omega) (fun _ _ _ => rfl) (fun i hi => ⟨fun ⟨g, g1, _⟩ => absurd g1 (by omega), fun _ => rfl⟩)
end TEAR
