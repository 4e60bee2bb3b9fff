/-! the reference reads units, products, sums as they are meant -/
section MREAD
variable {tx : Nat → Nat} {n : Nat} {M0 : px_M} {vals : Nat → Int32}
def ORr (tx : Nat → Nat) (n : Nat) (M0 : px_M) (vals : Nat → Int32) (B o : Nat) (r : Res) (z : Int32) (M' : px_M) : Prop := match r with
  | .inl t => z = t.2.2 vals ∧ ∃ a, a ≤ n ∧ bl tx n a = t.1 ∧ M' = rsM M0 (nI a) (nI o) 0 (-1)
  | .inr e => ∃ a o', a ≤ n + B ∧ M' = rsM M0 (nI a) o' (nI e.1) (nI e.2)
def SpR (tx : Nat → Nat) (n : Nat) (M0 : px_M) (vals : Nat → Int32) (B : Nat) (bz : Bool) (rd : px_M → Option (Int32 × px_M)) (o : Nat) (P : Nat → Res) : Prop :=
  ∀ a, a ≤ n → ∃ z M', rd (rsM M0 (nI a) (nI o) 0 (-1)) = some (z, M') ∧ ORr tx n M0 vals B o (P (bl tx n a)) z M' ∧ (bz = true → zb z = true)
def ErR (M0 : px_M) (rd : px_M → Option (Int32 × px_M)) : Prop := ∀ a o f g : Int32, f ≠ 0 → rd (rsM M0 a o f g) = some (0, rsM M0 a o f g)
def ErS (n : Nat) (M0 : px_M) (rd : px_M → Option (Int32 × px_M)) : Prop := ∀ (a B : Nat) (o f g : Int32), a ≤ n + B → B ≤ 2 → f ≠ 0 → ∃ a', a' ≤ n + B ∧ rd (rsM M0 (nI a) o f g) = some (0, rsM M0 (nI a') o f g)
theorem bl_B {a B : Nat} (h : a ≤ n + B) : bl tx n a ≤ n + B := by
  by_cases e : a ≤ n
  · have := bl_le (tx := tx) e
    omega
  · rw [bl_hi (by omega)]; exact h
theorem m_loop {rd : px_M → Option (Int32 × px_M)} {B o h : Nat} {P : Nat → Res} {op : Nat → Bool} {bz : Bool} {J : Nat → Prop} {body : Int32 × px_M → Option ((Int32 × px_M) ⊕ (Int32 × px_M))} (ht : ∀ i, i < n → tx i < 256) (hop : ∀ k, op k = true → 0 < k ∧ k < 306) (hz : bz = true → ∀ (k : Nat) (v z : Int32), op k = true → zb v = true → zb z = true → zb (wk (nI k) v z) = true) (hS : SpR tx n M0 vals B bz rd o P) (hG : ∀ p, p ≤ n → GdR n h p (P p))
    (hb1 : ∀ (v a o f g : Int32), f ≠ 0 → body (v, rsM M0 a o f g) = some (.inr (v, rsM M0 a o f g)))
    (hb2 : ∀ (v : Int32) (a : Nat), a ≤ n → J a → ¬ op (kd tx n (bl tx n a)) = true → ∃ a', a' ≤ n ∧ bl tx n a' = bl tx n a ∧ body (v, rsM M0 (nI a) (nI o) 0 (-1)) = some (.inr (v, rsM M0 (nI a') (nI o) 0 (-1))))
    (hb3 : ∀ (v : Int32) (a : Nat), a ≤ n → J a → op (kd tx n (bl tx n a)) = true → (bz = true → zb v = true) → ∃ a1, a1 ≤ n ∧ bl tx n a1 = tk tx n (bl tx n a) ∧ ∀ (z : Int32) (a2 : Nat) (o' f' g' : Int32), (bz = true → zb z = true) → a2 ≤ n + B → rd (rsM M0 (nI a1) (nI o) 0 (-1)) = some (z, rsM M0 (nI a2) o' f' g') → ∃ a3, (a2 ≤ n → a3 ≤ n) ∧ a3 ≤ n + B ∧ bl tx n a3 = bl tx n a2 ∧ J a3 ∧ body (v, rsM M0 (nI a) (nI o) 0 (-1)) = some (.inl (wk (nI (kd tx n (bl tx n a))) v z, rsM M0 (nI a3) o' f' g'))) :
    ∀ (f a : Nat) (c : List Int32) (v : Vl) (z : Int32), n + 1 ≤ bl tx n a + f → a ≤ n → J a → z = v vals → (bz = true → zb z = true) → ∃ z' M', lpf body (z, rsM M0 (nI a) (nI o) 0 (-1)) = some (z', M') ∧ ORr tx n M0 vals B o (pLp tx n P op f (bl tx n a) c v) z' M' ∧ (bz = true → zb z' = true)
  | 0, a, c, v, z, hf, ha, hJ, hv, hzz => absurd hf (by have := bl_le (tx := tx) ha; omega)
  | f + 1, a, c, v, z, hf, ha, hJ, hv, hzz => by
    unfold pLp
    have hbn := bl_le (tx := tx) ha
    by_cases e : op (kd tx n (bl tx n a)) = true
    · obtain ⟨k0, k1⟩ := hop _ e
      have hp1 := kd_n ht (show kd tx n (bl tx n a) < 318 by omega)
      have hk1 := tk_gt (tx := tx) hp1
      rw [if_pos e]
      obtain ⟨a1, b1, b2, b3⟩ := hb3 z a ha hJ e hzz
      obtain ⟨z2, M1, g1, g2, g3⟩ := hS a1 b1
      have hG1 := hG (bl tx n a1) (bl_le b1)
      rw [b2] at g2 hG1
      revert g2 hG1
      generalize P (tk tx n (bl tx n a)) = r1
      intro g2 hG1
      match r1, g2, hG1 with
      | .inr e', g2, hG1 =>
        obtain ⟨a2, o', h2, rfl⟩ := g2
        obtain ⟨a3, q1, q2, q3, q4, q5⟩ := b3 z2 a2 o' _ _ g3 h2 g1
        rw [lpf_go q5, lpf_end (hb1 _ _ _ _ _ (nE hG1.1))]
        exact ⟨_, _, rfl, ⟨a3, o', q2, rfl⟩, fun hb => hz hb _ _ _ e (hzz hb) (g3 hb)⟩
      | .inl (q, c2, v2), g2, hG1 =>
        obtain ⟨rfl, a2, h2, h3, rfl⟩ := g2
        obtain ⟨G1, G2, -⟩ := hG1
        dsimp only at G1 G2 h3 g1 g3
        obtain ⟨a3, q1, q2, q3, q4, q5⟩ := b3 (v2 vals) a2 _ _ _ g3 (by omega) g1
        rw [lpf_go q5]
        have := m_loop ht hop hz hS hG hb1 hb2 hb3 f a3 (c ++ c2 ++ [-(nI (kd tx n (bl tx n a)))]) (fun vals => wk (nI (kd tx n (bl tx n a))) (v vals) (v2 vals)) (wk (nI (kd tx n (bl tx n a))) z (v2 vals)) (by rw [q3, h3]; omega) (q1 h2) q4 (by rw [hv]) (fun hb => hz hb _ _ _ e (hzz hb) (g3 hb))
        rw [q3, h3] at this
        exact this
    · rw [if_neg e]
      obtain ⟨a', b1, b2, b3⟩ := hb2 z a ha hJ e
      exact ⟨_, _, lpf_end b3, ⟨hv, a', b1, b2, rfl⟩, hzz⟩
/-! products and sums -/
theorem kd_s (hI : RrI tx n M0 vals) {p : Nat} (c : Nat) (w : Int32) (hw : w = nI c) (hc : c < 256) (h1 : ¬ (97 ≤ c ∧ c ≤ 122)) (h2 : ¬ (48 ≤ c ∧ c ≤ 57)) : byI tx n p = w ↔ kd tx n p = c := (by_eq hI w hw hc).trans (kd_byt hI.1 hc h1 h2).symm
theorem m_prod (hI : RrI tx n M0 vals) {rd : px_M → Option (Int32 × px_M)} {o h : Nat} {P : Nat → Res} (hS : SpR tx n M0 vals 0 false rd o P) (hG : ∀ p, p ≤ n → GdR n h p (P p)) : SpR tx n M0 vals 0 false (o_X12_product rd) o (pLo tx n P isMul) := by
  have h300 := hI.1
  have ht := hI.bx
  have hb1 : ∀ (v a o f g : Int32), f ≠ 0 → o_X12_product_9 rd (rsM M0 a o f g) v = some (.inr (v, rsM M0 a o f g)) := by
    intro v a o f g hf
    unfold o_X12_product_9
    rw [rs81, if_neg hf]
  have L := m_loop (body := fun a : Int32 × px_M => o_X12_product_9 rd a.2 a.1) (bz := false) (J := fun a => bl tx n a = a) ht op_mul (fun h => absurd h (by decide)) hS hG hb1
    (fun v a ha hJ hop => by
      refine ⟨a, ha, rfl, ?_⟩
      rw [hJ, isMul_iff] at hop
      show o_X12_product_9 rd (rsM M0 (nI a) (nI o) 0 (-1)) v = _
      unfold o_X12_product_9
      rw [rs81, if_pos rfl, rs78, m_byte hI (by omega), bd1_e, bd1_e, ifi (kd_s hI 42 42 rfl (by decide) (by decide) (by decide)), ifi (kd_s hI 47 47 rfl (by decide) (by decide) (by decide)), if_neg (show ¬ kd tx n a = 42 by omega), if_neg (show ¬ kd tx n a = 47 by omega)])
    (fun v a ha hJ hop _ => by
      rw [hJ] at hop ⊢
      have hop' := isMul_iff.mp hop
      have hs : a < n ∧ nx tx n a = a + 1 := by
        rcases hop' with k | k
        · exact nx_sgn (c := 42) (by decide) (by decide) (by decide) ((kd_byt h300 (by decide) (by decide) (by decide)).mp k)
        · exact nx_sgn (c := 47) (by decide) (by decide) (by decide) ((kd_byt h300 (by decide) (by decide) (by decide)).mp k)
      refine ⟨a + 1, by omega, by unfold tk; rw [hs.2], fun z a2 o' f' g' _ h2 hr => ⟨bl tx n a2, fun h => bl_le h, bl_B h2, bl_bl h300 a2, bl_bl h300 a2, ?_⟩⟩
      show o_X12_product_9 rd (rsM M0 (nI a) (nI o) 0 (-1)) v = _
      unfold o_X12_product_9 o_X12_product_42 o_X12_product_89
      simp only [rs81, rs78, if_true, m_byte hI (show a < 2 ^ 31 by omega), bd1_e, nm_u, rsu78, nI_1, hr, m_blanks hI (show a2 ≤ 2 ^ 30 by omega)]
      have b42 : byI tx n a = 42 ↔ kd tx n a = 42 := kd_s hI 42 42 rfl (by decide) (by decide) (by decide)
      have b47 : byI tx n a = 47 ↔ kd tx n a = 47 := kd_s hI 47 47 rfl (by decide) (by decide) (by decide)
      by_cases k : kd tx n a = 42
      · rw [if_pos (b42.mpr k), if_pos (b42.mpr k), k, wk_mul]
      · have k2 : kd tx n a = 47 := by omega
        rw [if_neg (fun z => k (b42.mp z)), if_pos (b47.mpr k2), if_neg (fun z => k (b42.mp z)), k2, wk_div]
        by_cases c : z = 0
        · rw [if_pos c, if_pos c]
        · rw [if_neg c, if_neg c, ok_t (nz_t c)])
  intro a ha
  obtain ⟨z, M1, g1, g2, g3⟩ := hS a ha
  have hG1 := hG (bl tx n a) (bl_le ha)
  unfold o_X12_product pLo
  rw [g1, bd1_e]
  revert g2 hG1
  generalize P (bl tx n a) = r1
  intro g2 hG1
  match r1, g2, hG1 with
  | .inr e', g2, hG1 =>
    obtain ⟨a2, o', h2, rfl⟩ := g2
    rw [m_blanks hI (by omega), bd1_e, lpf_end (body := fun a : Int32 × px_M => o_X12_product_9 rd a.2 a.1) (hb1 _ _ _ _ _ (nE hG1.1)), bd1_e]
    exact ⟨_, _, rfl, ⟨bl tx n a2, o', bl_B h2, rfl⟩, fun h => absurd h (by decide)⟩
  | .inl (q, c2, v2), g2, hG1 =>
    obtain ⟨rfl, a2, h2, h3, rfl⟩ := g2
    obtain ⟨G1, G2, -⟩ := hG1
    dsimp only at G1 G2 h3
    rw [m_blanks hI (by omega), bd1_e]
    obtain ⟨z', M', l1, l2, l3⟩ := L 301 (bl tx n a2) c2 v2 (v2 vals) (by rw [bl_bl h300, h3]; omega) (bl_le h2) (bl_bl h300 a2) rfl (fun h => absurd h (by decide))
    rw [bl_bl h300, h3] at l2
    rw [h3] at l1 ⊢
    rw [l1, bd1_e]
    exact ⟨_, _, rfl, l2, l3⟩
theorem m_sum (hI : RrI tx n M0 vals) {rd : px_M → Option (Int32 × px_M)} {o h : Nat} {P : Nat → Res} (hS : SpR tx n M0 vals 0 false (o_X12_product rd) o P) (hG : ∀ p, p ≤ n → GdR n h p (P p)) : SpR tx n M0 vals 0 false (o_X12_sum rd) o (pLo tx n P isAdd) := by
  have h300 := hI.1
  have ht := hI.bx
  have hb1 : ∀ (v a o f g : Int32), f ≠ 0 → o_X12_sum_9 rd (rsM M0 a o f g) v = some (.inr (v, rsM M0 a o f g)) := by
    intro v a o f g hf
    unfold o_X12_sum_9
    rw [rs81, if_neg hf]
  have L := m_loop (body := fun a : Int32 × px_M => o_X12_sum_9 rd a.2 a.1) (bz := false) (J := fun a => bl tx n a = a) ht op_add (fun h => absurd h (by decide)) hS hG hb1
    (fun v a ha hJ hop => by
      refine ⟨a, ha, rfl, ?_⟩
      rw [hJ, isAdd_iff] at hop
      show o_X12_sum_9 rd (rsM M0 (nI a) (nI o) 0 (-1)) v = _
      unfold o_X12_sum_9
      rw [rs81, if_pos rfl, rs78, m_byte hI (by omega), bd1_e, bd1_e, ifi (kd_s hI 43 43 rfl (by decide) (by decide) (by decide)), ifi (kd_s hI 45 45 rfl (by decide) (by decide) (by decide)), if_neg (show ¬ kd tx n a = 43 by omega), if_neg (show ¬ kd tx n a = 45 by omega)])
    (fun v a ha hJ hop _ => by
      rw [hJ] at hop ⊢
      have hop' := isAdd_iff.mp hop
      have hs : a < n ∧ nx tx n a = a + 1 := by
        rcases hop' with k | k
        · exact nx_sgn (c := 43) (by decide) (by decide) (by decide) ((kd_byt h300 (by decide) (by decide) (by decide)).mp k)
        · exact nx_sgn (c := 45) (by decide) (by decide) (by decide) ((kd_byt h300 (by decide) (by decide) (by decide)).mp k)
      refine ⟨a + 1, by omega, by unfold tk; rw [hs.2], fun z a2 o' f' g' _ h2 hr => ⟨bl tx n a2, fun h => bl_le h, bl_B h2, bl_bl h300 a2, bl_bl h300 a2, ?_⟩⟩
      show o_X12_sum_9 rd (rsM M0 (nI a) (nI o) 0 (-1)) v = _
      unfold o_X12_sum_9 o_X12_sum_42 o_X12_sum_81
      simp only [rs81, rs78, if_true, m_byte hI (show a < 2 ^ 31 by omega), bd1_e, nm_u, rsu78, nI_1, hr, m_blanks hI (show a2 ≤ 2 ^ 30 by omega)]
      have b43 : byI tx n a = 43 ↔ kd tx n a = 43 := kd_s hI 43 43 rfl (by decide) (by decide) (by decide)
      have b45 : byI tx n a = 45 ↔ kd tx n a = 45 := kd_s hI 45 45 rfl (by decide) (by decide) (by decide)
      by_cases k : kd tx n a = 43
      · rw [if_pos (b43.mpr k), if_pos (b43.mpr k), k, wk_add]
      · have k2 : kd tx n a = 45 := by omega
        rw [if_neg (fun z => k (b43.mp z)), if_pos (b45.mpr k2), if_neg (fun z => k (b43.mp z)), k2, wk_sub])
  intro a ha
  obtain ⟨z, M1, g1, g2, g3⟩ := hS a ha
  have hG1 := hG (bl tx n a) (bl_le ha)
  unfold o_X12_sum pLo
  rw [g1, bd1_e]
  revert g2 hG1
  generalize P (bl tx n a) = r1
  intro g2 hG1
  match r1, g2, hG1 with
  | .inr e', g2, hG1 =>
    obtain ⟨a2, o', h2, rfl⟩ := g2
    rw [m_blanks hI (by omega), bd1_e, lpf_end (body := fun a : Int32 × px_M => o_X12_sum_9 rd a.2 a.1) (hb1 _ _ _ _ _ (nE hG1.1)), bd1_e]
    exact ⟨_, _, rfl, ⟨bl tx n a2, o', bl_B h2, rfl⟩, fun h => absurd h (by decide)⟩
  | .inl (q, c2, v2), g2, hG1 =>
    obtain ⟨rfl, a2, h2, h3, rfl⟩ := g2
    obtain ⟨G1, G2, -⟩ := hG1
    dsimp only at G1 G2 h3
    rw [m_blanks hI (by omega), bd1_e]
    obtain ⟨z', M', l1, l2, l3⟩ := L 301 (bl tx n a2) c2 v2 (v2 vals) (by rw [bl_bl h300, h3]; omega) (bl_le h2) (bl_bl h300 a2) rfl (fun h => absurd h (by decide))
    rw [bl_bl h300, h3] at l2
    rw [h3] at l1 ⊢
    rw [l1, bd1_e]
    exact ⟨_, _, rfl, l2, l3⟩
theorem m_sum_e (hI : RrI tx n M0 vals) {rd : px_M → Option (Int32 × px_M)} (hE : ErR M0 rd) : ErS n M0 (o_X12_sum rd) := by
  intro a B o f g ha hB hf
  have h300 := hI.1
  have h1 := bl_B (tx := tx) ha
  have e1 : o_X12_product rd (rsM M0 (nI a) o f g) = some (0, rsM M0 (nI (bl tx n a)) o f g) := by
    unfold o_X12_product
    rw [hE _ _ _ _ hf, bd1_e, m_blanks hI (by omega), bd1_e, lpf_end (body := fun a : Int32 × px_M => o_X12_product_9 rd a.2 a.1) (b := (0, rsM M0 (nI (bl tx n a)) o f g)) (by
      show o_X12_product_9 rd (rsM M0 (nI (bl tx n a)) o f g) 0 = _
      unfold o_X12_product_9
      rw [rs81, if_neg hf]), bd1_e]
  refine ⟨bl tx n (bl tx n a), bl_B h1, ?_⟩
  unfold o_X12_sum
  rw [e1, bd1_e, m_blanks hI (by omega), bd1_e, lpf_end (body := fun a : Int32 × px_M => o_X12_sum_9 rd a.2 a.1) (b := (0, rsM M0 (nI (bl tx n (bl tx n a))) o f g)) (by
    show o_X12_sum_9 rd (rsM M0 (nI (bl tx n (bl tx n a))) o f g) 0 = _
    unfold o_X12_sum_9
    rw [rs81, if_neg hf]), bd1_e]
end MREAD
