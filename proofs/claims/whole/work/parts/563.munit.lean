/-! the reference's units -/
section MUNIT
variable {tx : Nat → Nat} {n : Nat} {M0 : px_M} {vals : Nat → Int32}
theorem m_sign_B (hI : RrI tx n M0 vals) {a c B : Nat} {o f g : Int32} (ha : a ≤ n + B) (hB : B ≤ 2) (w : Int32) (hw : w = nI c) (hc : c < 256) (hf : f ≠ 0) : ∃ a', a' ≤ n + B ∧ f_X12_sign (rsM M0 (nI a) o f g) w = some (rsM M0 (nI a') o f g) := by
  have h300 := hI.1
  have hb := bl_B (tx := tx) ha
  by_cases h : byt tx n (bl tx n a) = c
  · refine ⟨_, ?_, m_sign_y hI (by omega) (by omega) w hw hc h⟩
    by_cases e : bl tx n a < n
    · omega
    · rw [byt_o (by omega)] at h; omega
  · refine ⟨bl tx n a, hb, ?_⟩
    unfold f_X12_sign f_X12_sign_38
    rw [m_blanks hI (by omega), bd1_e, rs78, m_byte hI (by omega), bd1_e, if_neg (fun z => h ((by_eq hI w hw hc).mp z)), m_wrong1 hf, bd1_e]
theorem kd_sm (ht : ∀ i, i < n → tx i < 256) {p : Nat} (h1 : 300 ≤ kd tx n p) (h2 : kd tx n p ≤ 316) : isSm tx n p = true := by
  unfold kd at h1 h2
  by_cases a : n ≤ p
  · rw [if_pos a] at h1 h2; omega
  · rw [if_neg a] at h1 h2
    by_cases b : 97 ≤ tx p ∧ tx p ≤ 122
    · exact isSm_iff.mpr ⟨by omega, b⟩
    · have := ht p (by omega)
      rw [if_neg b] at h1 h2
      split at h1 <;> split at h2 <;> omega
theorem tk_sgn {p c : Nat} (hn : n ≤ 300) (hc : c < 256) (h1 : ¬ (97 ≤ c ∧ c ≤ 122)) (h2 : ¬ (48 ≤ c ∧ c ≤ 57)) (h : kd tx n p = c) : p < n ∧ bl tx n (p + 1) = tk tx n p := by
  obtain ⟨q1, q2⟩ := nx_sgn hc h1 h2 ((kd_byt hn hc h1 h2).mp h)
  exact ⟨q1, by unfold tk; rw [q2]⟩
/-- behind what stands in brackets -/
theorem m_199 (hI : RrI tx n M0 vals) {rd : px_M → Option (Int32 × px_M)} {o q a : Nat} (ha : a ≤ n) (hq : bl tx n a = q) (z : Int32) (v : Vl) (hv : z = v vals) (c : List Int32) : ∃ z' M', o_X12_unit_199 rd (rsM M0 (nI a) (nI (o + 1)) 0 (-1)) z = some (z', M') ∧ ORr tx n M0 vals 0 o (if kd tx n q = 41 then .inl (tk tx n q, c, v) else .inr (1, q)) z' M' := by
  have h300 := hI.1
  have hqn : q ≤ n := by rw [← hq]; exact bl_le ha
  unfold o_X12_unit_199
  by_cases k : kd tx n q = 41
  · obtain ⟨q1, q2⟩ := tk_sgn h300 (by decide) (by decide) (by decide) k
    have hb := (kd_byt h300 (c := 41) (by decide) (by decide) (by decide)).mp k
    rw [m_sign_y hI (c := 41) (by omega) (by omega) 41 rfl (by decide) (by rw [hq]; exact hb), bd1_e, nm_u, nm_u, rs80, rsu80, nI_pred, hq, if_pos k]
    exact ⟨_, _, rfl, hv, q + 1, by omega, q2, rfl⟩
  · have hb : ¬ byt tx n (bl tx n a) = 41 := fun z => k ((kd_byt h300 (c := 41) (by decide) (by decide) (by decide)).mpr (by rw [← hq]; exact z))
    rw [m_sign_x hI (c := 41) (by omega) (by omega) 41 rfl (by decide) hb, bd1_e, nm_u, nm_u, rs80, rsu80, hq, if_neg k]
    exact ⟨_, _, rfl, q, _, by omega, rfl⟩
theorem m_199_e (hI : RrI tx n M0 vals) {rd : px_M → Option (Int32 × px_M)} {a : Nat} {o f g : Int32} (ha : a ≤ n) (hf : f ≠ 0) (z : Int32) : ∃ a' o', a' ≤ n ∧ o_X12_unit_199 rd (rsM M0 (nI a) o f g) z = some (z, rsM M0 (nI a') o' f g) := by
  obtain ⟨a', h1, h2⟩ := m_sign_B hI (B := 0) (a := a) (o := o) (g := g) ha (by decide) (c := 41) 41 rfl (by decide) hf
  unfold o_X12_unit_199
  rw [h2, bd1_e, nm_u, nm_u, rs80, rsu80]
  exact ⟨a', _, h1, rfl⟩
theorem m_114a (hI : RrI tx n M0 vals) {rd : px_M → Option (Int32 × px_M)} {o h : Nat} {rc : Option (Nat → Res)} (hrc : ∀ P, rc = some P → (o < 6 ∧ SpR tx n M0 vals 0 false (o_X12_sum rd) (o + 1) P) ∧ ∀ p, p ≤ n → GdR n h p (P p)) (hno : rc = none → o = 6) (hE : ErR M0 rd) {a : Nat} (ha : a ≤ n) :
    ∃ z M', o_X12_unit_114 rd (rsM M0 (nI a) (nI o) 0 (-1)) 0 0 = some (z, M') ∧ ORr tx n M0 vals 0 o (if kd tx n (bl tx n a) = 40 then (match (generalizing := false) rc with
    | none => .inr (3, bl tx n a)
    | some P => rb (P (tk tx n (bl tx n a))) fun q c v => if kd tx n q = 41 then .inl (tk tx n q, c, v) else .inr (1, q)) else .inr (1, bl tx n a)) z M' := by
  have h300 := hI.1
  have hbn := bl_le (tx := tx) ha
  have hES := m_sum_e hI hE
  unfold o_X12_unit_114
  rw [m_blanks hI (by omega), bd1_e, rs78, m_byte hI (by omega), bd1_e, ifi (kd_s hI 40 40 rfl (by decide) (by decide) (by decide))]
  obtain ⟨p, ep⟩ : ∃ p, p = bl tx n a := ⟨_, rfl⟩
  rw [← ep] at hbn ⊢
  by_cases k : kd tx n p = 40
  · obtain ⟨q1, q2⟩ := tk_sgn h300 (by decide) (by decide) (by decide) k
    rw [if_pos k, if_pos k]
    match rc, hrc, hno with
    | none, _, hno =>
      obtain rfl := hno rfl
      obtain ⟨a1, h1, h2⟩ := hES (p + 1) 0 (nI 7) 3 (nI p) (by omega) (by decide) (by decide)
      obtain ⟨a2, o2, h3, h4⟩ := m_199_e hI (rd := rd) (a := a1) (o := nI 7) (f := 3) (g := nI p) h1 (by decide) 0
      rw [m_opens_x (k := 1) 1 rfl, bd1_e, h2, bd1_e, if_pos rfl, if_pos rfl]
      exact ⟨_, _, h4, a2, o2, h3, rfl⟩
    | some P, hrc, _ =>
      obtain ⟨⟨ho, hS⟩, hG⟩ := hrc P rfl
      dsimp only
      obtain ⟨z, M1, g1, g2, -⟩ := hS (p + 1) (by omega)
      rw [m_opens_y (k := 1) ho 1 rfl, bd1_e, g1, bd1_e, if_pos rfl, if_pos rfl]
      have hG1 := hG (tk tx n p) (tk_le hbn)
      rw [q2] at g2
      revert g2 hG1
      generalize P (tk tx n p) = r1
      intro g2 hG1
      match r1, g2, hG1 with
      | .inr e', g2, hG1 =>
        obtain ⟨a2, o', h2, rfl⟩ := g2
        obtain ⟨a3, o3, h3, h4⟩ := m_199_e hI (rd := rd) (a := a2) (o := o') (g := nI e'.2) h2 (nE hG1.1) z
        exact ⟨_, _, h4, a3, o3, h3, rfl⟩
      | .inl (q, c2, v2), g2, hG1 =>
        obtain ⟨hv, a2, h2, h3, rfl⟩ := g2
        exact m_199 hI h2 h3 z v2 hv c2
  · rw [if_neg k, if_neg k, m_wrong0, bd1_e]
    exact ⟨_, _, rfl, p, _, by omega, rfl⟩
theorem m_162 (hI : RrI tx n M0 vals) {rd : px_M → Option (Int32 × px_M)} {kk : Nat} {x3 : Int32} (hx : (kk = 314 ∧ x3 = 1) ∨ (kk = 315 ∧ x3 = 0)) {o h : Nat} {P : Nat → Res} (hS : SpR tx n M0 vals 0 false (o_X12_sum rd) (o + 1) P) (hG : ∀ p, p ≤ n → GdR n h p (P p)) (hE : ErR M0 rd) {q a : Nat} (ha : a ≤ n) (hq : bl tx n a = q) (z : Int32) (v : Vl) (hv : z = v vals) (c : List Int32) :
    ∃ z' M', o_X12_unit_162 rd (rsM M0 (nI a) (nI (o + 1)) 0 (-1)) x3 z = some (z', M') ∧ ORr tx n M0 vals 0 o (if kd tx n q = 44 then (rb (P (tk tx n q)) fun q2 c2 v2 => if kd tx n q2 = 41 then .inl (tk tx n q2, c ++ c2 ++ [-(nI kk)], fun vals => wk (nI kk) (v vals) (v2 vals)) else .inr (1, q2)) else .inr (1, q)) z' M' := by
  have h300 := hI.1
  have hqn : q ≤ n := by rw [← hq]; exact bl_le ha
  have hES := m_sum_e hI hE
  have pick : ∀ (M : px_M) (u : Int32), (if z ≤ u then o_X12_unit_187 rd M z u 0 x3 else o_X12_unit_187 rd M z u 1 x3) = o_X12_unit_199 rd M (wk (nI kk) z u) := by
    intro M u
    unfold o_X12_unit_187 o_X12_unit_197
    rcases hx with ⟨rfl, rfl⟩ | ⟨rfl, rfl⟩
    · rw [wk_least, if_neg (show ¬ (1 : Int32) = 0 by decide), if_pos (show (1 : Int32) = 1 from rfl)]
      by_cases e : z ≤ u
      · rw [if_pos e, if_neg (Int32.not_lt.mpr e)]
      · rw [if_neg e, if_pos (Int32.not_le.mp e)]
    · rw [wk_most, if_neg (show ¬ (0 : Int32) = 1 by decide), if_pos (show (0 : Int32) = 0 from rfl)]
      by_cases e : z ≤ u
      · rw [if_pos e, if_neg (Int32.not_lt.mpr e)]
      · rw [if_neg e, if_pos (Int32.not_le.mp e)]
  unfold o_X12_unit_162
  by_cases k : kd tx n q = 44
  · obtain ⟨q1, q2⟩ := tk_sgn h300 (by decide) (by decide) (by decide) k
    have hb := (kd_byt h300 (c := 44) (by decide) (by decide) (by decide)).mp k
    rw [m_sign_y hI (c := 44) (by omega) (by omega) 44 rfl (by decide) (by rw [hq]; exact hb), bd1_e, hq, if_pos k]
    obtain ⟨z2, M1, g1, g2, -⟩ := hS (q + 1) (by omega)
    rw [g1, bd1_e, pick]
    have hG1 := hG (tk tx n q) (tk_le hqn)
    rw [q2] at g2
    revert g2 hG1
    generalize P (tk tx n q) = r1
    intro g2 hG1
    match r1, g2, hG1 with
    | .inr e', g2, hG1 =>
      obtain ⟨a2, o', h2, rfl⟩ := g2
      obtain ⟨a3, o3, h3, h4⟩ := m_199_e hI (rd := rd) (a := a2) (o := o') (g := nI e'.2) h2 (nE hG1.1) (wk (nI kk) z z2)
      exact ⟨_, _, h4, a3, o3, h3, rfl⟩
    | .inl (q2', c2, v2), g2, hG1 =>
      obtain ⟨hv2, a2, h2, h3, rfl⟩ := g2
      exact m_199 hI h2 h3 _ (fun vals => wk (nI kk) (v vals) (v2 vals)) (by rw [hv, hv2]) _
  · have hb : ¬ byt tx n (bl tx n a) = 44 := fun z => k ((kd_byt h300 (c := 44) (by decide) (by decide) (by decide)).mpr (by rw [← hq]; exact z))
    rw [m_sign_x hI (c := 44) (by omega) (by omega) 44 rfl (by decide) hb, bd1_e, hq, if_neg k]
    obtain ⟨a1, h1, h2⟩ := hES q 0 (nI (o + 1)) 1 (nI q) (by omega) (by decide) (by decide)
    rw [h2, bd1_e, pick]
    obtain ⟨a3, o3, h3, h4⟩ := m_199_e hI (rd := rd) (a := a1) (o := nI (o + 1)) (f := 1) (g := nI q) h1 (by decide) (wk (nI kk) z 0)
    exact ⟨_, _, h4, a3, o3, h3, rfl⟩
theorem m_162_e (hI : RrI tx n M0 vals) {rd : px_M → Option (Int32 × px_M)} (hE : ErR M0 rd) {a : Nat} {o f g : Int32} (ha : a ≤ n) (hf : f ≠ 0) (x3 z : Int32) : ∃ z' a' o', a' ≤ n ∧ o_X12_unit_162 rd (rsM M0 (nI a) o f g) x3 z = some (z', rsM M0 (nI a') o' f g) := by
  obtain ⟨a', h1, h2⟩ := m_sign_B hI (B := 0) (a := a) (o := o) (g := g) ha (by decide) (c := 44) 44 rfl (by decide) hf
  obtain ⟨a1, h3, h4⟩ := m_sum_e hI hE a' 0 o f g h1 (by decide) hf
  unfold o_X12_unit_162 o_X12_unit_187 o_X12_unit_197
  rw [h2, bd1_e, h4, bd1_e]
  have e : ∀ y, ∃ z' a' o', a' ≤ n ∧ o_X12_unit_199 rd (rsM M0 (nI a1) o f g) y = some (z', rsM M0 (nI a') o' f g) := by
    intro y
    obtain ⟨a3, o3, h3, h4⟩ := m_199_e hI (rd := rd) (a := a1) (o := o) (g := g) h3 hf y
    exact ⟨_, a3, o3, h3, h4⟩
  split
  · split
    · exact e _
    · exact e _
  · split
    · exact e _
    · exact e _
theorem m_114b (hI : RrI tx n M0 vals) {rd : px_M → Option (Int32 × px_M)} {kk : Nat} {x3 x4 : Int32} (hx : (kk = 314 ∧ x3 = 1) ∨ (kk = 315 ∧ x3 = 0)) (hx4 : x3 = 0 → ¬ x4 = 0) {o h : Nat} {rc : Option (Nat → Res)} (hrc : ∀ P, rc = some P → (o < 6 ∧ SpR tx n M0 vals 0 false (o_X12_sum rd) (o + 1) P) ∧ ∀ p, p ≤ n → GdR n h p (P p)) (hno : rc = none → o = 6) (hE : ErR M0 rd) {a : Nat} (ha : a ≤ n) :
    ∃ z M', o_X12_unit_114 rd (rsM M0 (nI a) (nI o) 0 (-1)) x3 x4 = some (z, M') ∧ ORr tx n M0 vals 0 o (if kd tx n (bl tx n a) = 40 then (match (generalizing := false) rc with
    | none => .inr (3, bl tx n a)
    | some P => rb (P (tk tx n (bl tx n a))) fun q c v => if kd tx n q = 44 then (rb (P (tk tx n q)) fun q2 c2 v2 => if kd tx n q2 = 41 then .inl (tk tx n q2, c ++ c2 ++ [-(nI kk)], fun vals => wk (nI kk) (v vals) (v2 vals)) else .inr (1, q2)) else .inr (1, q)) else .inr (1, bl tx n a)) z M' := by
  have h300 := hI.1
  have hbn := bl_le (tx := tx) ha
  have hES := m_sum_e hI hE
  have pick : ∀ (M : px_M) (v : Int32), (if x3 = 0 then (if x4 = 0 then o_X12_unit_199 rd M v else o_X12_unit_162 rd M x3 v) else o_X12_unit_162 rd M x3 v) = o_X12_unit_162 rd M x3 v := by
    intro M v
    by_cases e : x3 = 0
    · rw [if_pos e, if_neg (hx4 e)]
    · rw [if_neg e]
  unfold o_X12_unit_114
  rw [m_blanks hI (by omega), bd1_e, rs78, m_byte hI (by omega), bd1_e, ifi (kd_s hI 40 40 rfl (by decide) (by decide) (by decide))]
  obtain ⟨p, ep⟩ : ∃ p, p = bl tx n a := ⟨_, rfl⟩
  rw [← ep] at hbn ⊢
  by_cases k : kd tx n p = 40
  · obtain ⟨q1, q2⟩ := tk_sgn h300 (by decide) (by decide) (by decide) k
    rw [if_pos k, if_pos k]
    match rc, hrc, hno with
    | none, _, hno =>
      obtain rfl := hno rfl
      obtain ⟨a1, h1, h2⟩ := hES (p + 1) 0 (nI 7) 3 (nI p) (by omega) (by decide) (by decide)
      obtain ⟨z2, a2, o2, h3, h4⟩ := m_162_e hI hE (a := a1) (o := nI 7) (f := 3) (g := nI p) h1 (by decide) x3 0
      rw [m_opens_x (k := 1) 1 rfl, bd1_e, h2, bd1_e, pick]
      exact ⟨_, _, h4, a2, o2, h3, rfl⟩
    | some P, hrc, _ =>
      obtain ⟨⟨ho, hS⟩, hG⟩ := hrc P rfl
      dsimp only
      obtain ⟨z, M1, g1, g2, -⟩ := hS (p + 1) (by omega)
      rw [m_opens_y (k := 1) ho 1 rfl, bd1_e, g1, bd1_e, pick]
      have hG1 := hG (tk tx n p) (tk_le hbn)
      rw [q2] at g2
      revert g2 hG1
      generalize P (tk tx n p) = r1
      intro g2 hG1
      match r1, g2, hG1 with
      | .inr e', g2, hG1 =>
        obtain ⟨a2, o', h2, rfl⟩ := g2
        obtain ⟨z3, a3, o3, h3, h4⟩ := m_162_e hI hE (a := a2) (o := o') (g := nI e'.2) h2 (nE hG1.1) x3 z
        exact ⟨_, _, h4, a3, o3, h3, rfl⟩
      | .inl (q, c2, v2), g2, hG1 =>
        obtain ⟨hv, a2, h2, h3, rfl⟩ := g2
        exact m_162 hI hx hS hG hE h2 h3 z v2 hv c2
  · rw [if_neg k, if_neg k, m_wrong0, bd1_e]
    exact ⟨_, _, rfl, p, _, by omega, rfl⟩
theorem m_unit (hI : RrI tx n M0 vals) {rd : px_M → Option (Int32 × px_M)} {o h : Nat} {rc : Option (Nat → Res)} (hrc : ∀ P, rc = some P → (o < 6 ∧ SpR tx n M0 vals 0 false (o_X12_sum rd) (o + 1) P) ∧ ∀ p, p ≤ n → GdR n h p (P p)) (hno : rc = none → o = 6) (hE : ErR M0 rd) : SpR tx n M0 vals 0 false (o_X12_unit rd) o (pUnit tx n rc) := by
  intro a ha
  have h300 := hI.1
  have ht := hI.bx
  have hbn := bl_le (tx := tx) ha
  have hbb := bl_bl (tx := tx) h300 a
  obtain ⟨⟨-, -, -, -, -, -, -, w8⟩, w9, -⟩ := wdc
  have fin : ∀ (X : Option (Int32 × px_M)) (r : Res), (∃ z M', X = some (z, M') ∧ ORr tx n M0 vals 0 o r z M') → ∃ z M', X = some (z, M') ∧ ORr tx n M0 vals 0 o r z M' ∧ (false = true → zb z = true) := fun X r ⟨z, M', q1, q2⟩ => ⟨z, M', q1, q2, fun h => absurd h (by decide)⟩
  unfold o_X12_unit pUnit
  rw [rs81, if_pos rfl, m_blanks hI (by omega), bd1_e, rs78, m_byte hI (by omega), bd1_e, m_digit hI, bd1_e]
  obtain ⟨p, ep⟩ : ∃ p, p = bl tx n a := ⟨_, rfl⟩
  rw [← ep] at hbn hbb ⊢
  have hkl := kd_le ht p
  apply fin
  by_cases c1 : kd tx n p = 317
  · have hd := (kd_num h300 ht).mp c1
    have hp1 := kd_n ht (show kd tx n p < 318 by omega)
    obtain ⟨z, g1, g2⟩ := m_number hI hp1 hd hbb (nI o) (-1)
    rw [if_pos hd, if_neg (by decide), g1, bd1_e, if_pos c1]
    by_cases c2 : nv tx n p ≤ 9999
    · rw [if_pos c2, if_pos c2]
      exact ⟨_, _, rfl, g2 c2, de tx n p, de_le hbn, by unfold tk; rw [nx_dig hd], rfl⟩
    · rw [if_neg c2, if_neg c2]
      exact ⟨_, _, rfl, de tx n p, _, de_le hbn, rfl⟩
  · have hd : ¬ isDg tx n p = true := fun z => c1 ((kd_num h300 ht).mpr z)
    have k : ∀ i, i < 16 → (kd tx n p = 300 + i ↔ wd tx n p = Wt.getD i 0) := fun i hi => kd_wd h300 ht hi
    rw [if_neg hd, if_pos rfl, m_name hI (by omega) (by rw [hbb]; omega), bd1_e, hbb, m_word hI (by omega) (by rw [hbb]; omega), bd1_e, hbb, if_neg c1]
    by_cases c3 : 307 ≤ kd tx n p ∧ kd tx n p ≤ 313
    · have hs := kd_sm ht (show 300 ≤ kd tx n p by omega) (by omega)
      have hw := we_le (tx := tx) hbn
      rw [if_pos c3, if_pos c3, if_neg (nI_ne1 (by omega)), m_skip hI (by omega), bd1_e, hI.2.2.2 _ _ _ _ _ (by omega), bd1_e]
      exact ⟨_, _, rfl, rfl, we tx n p, hw, by unfold tk; rw [nx_wrd hs], rfl⟩
    · rw [if_neg c3, if_neg c3, if_pos rfl, w8, bd1_e]
      unfold o_X12_unit_77 o_X12_unit_99 o_X12_unit_110
      have b14 : wI tx n p = nI 6476969 ↔ kd tx n p = 314 := (wI_eq (nI 6476969) rfl (by decide)).trans (k 14 (by decide)).symm
      have b15 : wI tx n p = nI 267347 ↔ kd tx n p = 315 := (wI_eq (nI 267347) rfl (by decide)).trans (k 15 (by decide)).symm
      simp only [w9, bd1_e]
      by_cases c6 : kd tx n p = 314 ∨ kd tx n p = 315
      · have hs := kd_sm ht (show 300 ≤ kd tx n p by omega) (by omega)
        have hw := we_le (tx := tx) hbn
        have htk : bl tx n (we tx n p) = tk tx n p := by unfold tk; rw [nx_wrd hs]
        rw [if_neg (show ¬ kd tx n p = 40 by omega), if_pos c6, m_skip hI (by omega), bd1_e, bd1_e, bd1_e]
        rcases c6 with k1 | k1
        · rw [if_pos (b14.mpr k1), if_neg (fun z => absurd (b15.mp z) (by omega)), if_neg (show ¬ (1 : Int32) = 0 by decide), k1]
          have := m_114b hI (kk := 314) (x3 := 1) (x4 := 0) (Or.inl ⟨rfl, rfl⟩) (fun h => absurd h (by decide)) hrc hno hE hw
          rw [htk] at this
          exact this
        · rw [if_neg (fun z => absurd (b14.mp z) (by omega)), if_pos (b15.mpr k1), if_pos trivial, if_neg (show ¬ (1 : Int32) = 0 by decide), k1]
          have := m_114b hI (kk := 315) (x3 := 0) (x4 := 1) (Or.inr ⟨rfl, rfl⟩) (fun _ => by decide) hrc hno hE hw
          rw [htk] at this
          exact this
      · rw [if_neg (fun z => absurd (b14.mp z) (by omega)), if_neg (fun z => absurd (b15.mp z) (by omega)), if_pos trivial, if_pos trivial, if_neg c6]
        have := m_114a hI hrc hno hE hbn
        rw [hbb] at this
        exact this
theorem e_kUnit (k : Nat) : ErR M0 (k_X12_unit (k + 1)) := by
  intro a o f g hf
  show o_X12_unit _ _ = _
  unfold o_X12_unit
  rw [rs81, if_neg hf]
theorem m_kUnit (hI : RrI tx n M0 vals) : ∀ (g o k : Nat), g + o = 6 → g + 2 ≤ k → SpR tx n M0 vals 0 false (k_X12_unit k) o (pUnit tx n (rcS tx n g)) ∧ SpR tx n M0 vals 0 false (o_X12_sum (k_X12_unit k)) o (pS tx n g)
  | 0, o, k, ho, hk => by
    obtain ⟨k, rfl⟩ : ∃ j, k = j + 2 := ⟨k - 2, by omega⟩
    have ht := hI.bx
    have s1 : SpR tx n M0 vals 0 false (k_X12_unit (k + 2)) o (pUnit tx n (rcS tx n 0)) := m_unit hI (h := 0) (rc := none) (rd := k_X12_unit (k + 1)) (fun P e => absurd e (by simp)) (fun _ => by omega) (e_kUnit k)
    exact ⟨s1, m_sum hI (m_prod hI s1 (fun p hp => GdU ht (Gd_rcS ht 0) hp)) (fun p hp => GdP ht (Gd_rcS ht 0) hp)⟩
  | g + 1, o, k, ho, hk => by
    obtain ⟨k, rfl⟩ : ∃ j, k = j + 2 := ⟨k - 2, by omega⟩
    have ht := hI.bx
    have s1 : SpR tx n M0 vals 0 false (k_X12_unit (k + 2)) o (pUnit tx n (rcS tx n (g + 1))) := by
      refine m_unit hI (h := 3 * g + 3) (rc := some (pS tx n g)) (rd := k_X12_unit (k + 1)) (fun P e => ?_) (fun e => absurd e (by simp)) (e_kUnit k)
      obtain rfl : pS tx n g = P := Option.some.inj e
      exact ⟨⟨by omega, (m_kUnit hI g (o + 1) (k + 1) (by omega) (by omega)).2⟩, fun p hp => GdpS ht g hp⟩
    exact ⟨s1, m_sum hI (m_prod hI s1 (fun p hp => GdU ht (Gd_rcS ht (g + 1)) hp)) (fun p hp => GdP ht (Gd_rcS ht (g + 1)) hp)⟩
end MUNIT
