/-! a layer of the chart from the one before -/
def RowOK (P : Nat → Prop) (x y : Nat) : Prop := (x < 2 ^ 36 ∧ y < 2 ^ 36) ∧ (∀ h, h < 36 → (x.testBit h = true ↔ P h)) ∧ ∀ h, h < 36 → (y.testBit h = true ↔ P (h + 36))
theorem RowOK.or {P Q : Nat → Prop} {x y x2 y2 : Nat} (h : RowOK P x y) (h2 : RowOK Q x2 y2) : RowOK (fun h => P h ∨ Q h) (x ||| x2) (y ||| y2) := by
  refine ⟨⟨Nat.or_lt_two_pow h.1.1 h2.1.1, Nat.or_lt_two_pow h.1.2 h2.1.2⟩, fun k hk => ?_, fun k hk => ?_⟩
  · rw [Nat.testBit_or, Bool.or_eq_true, h.2.1 k hk, h2.2.1 k hk]
  · rw [Nat.testBit_or, Bool.or_eq_true, h.2.2 k hk, h2.2.2 k hk]
theorem RowOK.cg {P Q : Nat → Prop} {x y : Nat} (h : RowOK P x y) (e : ∀ k, k < 72 → (P k ↔ Q k)) : RowOK Q x y :=
  ⟨h.1, fun k hk => (h.2.1 k hk).trans (e k (by omega)), fun k hk => (h.2.2 k hk).trans (e (k + 36) (by omega))⟩
theorem RowOK.tb {P : Nat → Prop} {x y : Nat} (h : RowOK P x y) {k : Nat} (hk : k < 72) : tb2 x y k = true ↔ P k := by
  unfold tb2
  by_cases q : k < 36
  · rw [if_pos q]; exact h.2.1 k q
  · rw [if_neg q, h.2.2 (k - 36) (by omega), show k - 36 + 36 = k by omega]
theorem RowOK.of {P : Nat → Prop} {x y : Nat} (h : x < 2 ^ 36 ∧ y < 2 ^ 36) (h2 : ∀ k, k < 72 → (tb2 x y k = true ↔ P k)) : RowOK P x y := by
  refine ⟨h, fun k hk => ?_, fun k hk => ?_⟩
  · have := h2 k (by omega)
    unfold tb2 at this
    rw [if_pos hk] at this; exact this
  · have := h2 (k + 36) (by omega)
    unfold tb2 at this
    rw [if_neg (by omega), show k + 36 - 36 = k by omega] at this; exact this
theorem LayOK.row {wr ws s d : Nat} {l : Nat → Int64} (h : LayOK wr ws s d l) {r : Nat} (hr : r ≤ 255) : ∃ x y, l (512 * d + 2 * r) = lN x ∧ l (512 * d + 2 * r + 1) = lN y ∧ RowOK (Dd wr ws s d r) x y := by
  obtain ⟨x, y, h1, h2, h3, h4⟩ := h r hr
  exact ⟨x, y, h2.1, h2.2, h1, h3, h4⟩
section CHART2
variable {sh : px_Sh} {M : px_M} {L : px_L} {R : px_R} {a b wr ws s : Nat}
theorem c_145 (ha : sh a = some (1, 0)) (hR : R a 3 = some b) (hb : sh b = some (14, 20992)) (h0 : M a 0 = nI ws) (hws : ws ≤ 10) {e r x y : Nat} (x2 : Int32) {P : Nat → Prop} (he : e < 40) (hr : r ≤ 255) (hP : RowOK P x y) :
    ∃ X Y, f_X1_workLayer_145 sh M L R a (nI (e + 1)) x2 (nI r) (lN x) (lN y) = some (.inl (nI (r + 1), px_u (px_u L b (512 * (e + 1) + 2 * r) (lN X)) b (512 * (e + 1) + 2 * r + 1) (lN Y))) ∧ RowOK (fun h => P ((h + trn r + 72 - ws) % 72)) X Y := by
  have tb := trn_b r
  obtain ⟨X, Y, h1, h2, h3, h4⟩ := c_turned (L := L) ha hR hb (k := 512 * (e + 1) + 2 * r) (by omega) hP.1.1 hP.1.2 (t := (ws + 72 - trn r) % 72) (Nat.mod_lt _ (by decide))
  refine ⟨X, Y, ?_, RowOK.of ⟨h1, h2⟩ fun k hk => ?_⟩
  · unfold f_X1_workLayer_145
    rw [ok_t (hk_t ha), e_turn hr, bd1_e, h0, e_fm (by omega) (by omega), bd1_e, ok_t (hk_t ha), show (512 : Int32) = nI 512 from rfl, pk_mul, show (2 : Int32) = nI 2 from rfl, pk_mul, nI_add, show (e + 1) * 512 + 2 * r = 512 * (e + 1) + 2 * r by omega, h3, bd1_e, nI_1]
  · rw [h4 k hk, hP.tb (Nat.mod_lt _ (by decide)), show (k + 72 - (ws + 72 - trn r) % 72) % 72 = (k + trn r + 72 - ws) % 72 by omega]
theorem c_97 (ha : sh a = some (1, 0)) (hR : R a 3 = some b) (hb : sh b = some (14, 20992)) (hs : s ≤ 20) {e r x y : Nat} {P : Nat → Prop} (he : e < 40) (hr : r ≤ 255) (hP : RowOK P x y) (hL : LayOK wr ws s e (L b)) :
    ∃ X Y, f_X1_workLayer_97 sh M L R a (nI (e + 1)) (nI (512 * e)) (nI r) (nI (stp s r)) (lN x) (lN y) = f_X1_workLayer_145 sh M L R a (nI (e + 1)) (nI (512 * e)) (nI r) (lN X) (lN Y) ∧ RowOK (fun h => P h ∨ ∃ r', nxt s r 2 = some r' ∧ Dd wr ws s e r' h) X Y := by
  have sb := stp_b (r := r) hs
  unfold f_X1_workLayer_97
  rw [nI_add]
  by_cases q : r + stp s r ≤ 255
  · rw [if_neg (show ¬ 255 < nI (r + stp s r) by rw [show (255 : Int32) = nI 255 from rfl, nI_ltI (by decide) (by omega)]; omega)]
    obtain ⟨X, Y, l1, l2, l3⟩ := hL.row q
    refine ⟨x ||| X, y ||| Y, ?_, ?_⟩
    · rw [ok_t (hk_t ha), hR, bd1_e, show (2 : Int32) = nI 2 from rfl, pk_mul, nI_add, nm_u, ok_t (xk_t hb (ix_k (show 512 * e + 2 * (r + stp s r) < 20992 by omega) (by decide))), nI_clamp (by omega), l1, nm_u, ok_t (hk_t ha), bd1_e, nI_1, nm_u, ok_t (xk_t hb (ix_k (show 512 * e + 2 * (r + stp s r) + 1 < 20992 by omega) (by decide))), nI_clamp (by omega), l2, nm_u,
        wb_or (by have := hP.1.1; omega) (by have := l3.1.1; omega), wb_or (by have := hP.1.2; omega) (by have := l3.1.2; omega)]
    · refine (hP.or l3).cg fun k hk => ?_
      unfold nxt
      rw [if_neg (by decide), if_neg (by decide), if_pos q]
      simp
  · rw [if_pos (show 255 < nI (r + stp s r) from nI_lt (a := 255) (by omega) (by omega))]
    refine ⟨x, y, rfl, hP.cg fun k hk => ?_⟩
    unfold nxt
    rw [if_neg (by decide), if_neg (by decide), if_neg q]
    simp
theorem c_row (ha : sh a = some (1, 0)) (hR : R a 3 = some b) (hb : sh b = some (14, 20992)) (h0 : M a 0 = nI ws) (h1 : M a 1 = nI s) (hws : ws ≤ 10) (hs : s ≤ 20) {e r : Nat} (he : e < 40) (hr : r ≤ 255) (hL : LayOK wr ws s e (L b)) :
    ∃ X Y, f_X1_workLayer_10 sh M L R a (nI (e + 1)) (nI (512 * e)) (nI r) = some (.inl (nI (r + 1), px_u (px_u L b (512 * (e + 1) + 2 * r) (lN X)) b (512 * (e + 1) + 2 * r + 1) (lN Y))) ∧ RowOK (Dd wr ws s (e + 1) r) X Y := by
  have sb := stp_b (r := r) hs
  obtain ⟨x, y, l1, l2, l3⟩ := hL.row hr
  have fin : ∀ (x y : Nat) (P : Nat → Prop), RowOK P x y → (∀ h, P h ↔ (Dd wr ws s e r h ∨ ∃ r', nxt s r 0 = some r' ∧ Dd wr ws s e r' h)) →
      ∃ X Y, f_X1_workLayer_97 sh M L R a (nI (e + 1)) (nI (512 * e)) (nI r) (nI (stp s r)) (lN x) (lN y) = some (.inl (nI (r + 1), px_u (px_u L b (512 * (e + 1) + 2 * r) (lN X)) b (512 * (e + 1) + 2 * r + 1) (lN Y))) ∧ RowOK (Dd wr ws s (e + 1) r) X Y := by
    intro x y P hP hPi
    obtain ⟨x2, y2, g1, g2⟩ := c_97 (M := M) ha hR hb hs he hr hP hL
    obtain ⟨X, Y, g3, g4⟩ := c_145 (L := L) ha hR hb h0 hws (nI (512 * e)) he hr g2
    refine ⟨X, Y, by rw [g1, g3], g4.cg fun k hk => ?_⟩
    simp only [hPi]
    show _ ↔ ∃ k', k' < 3 ∧ ∃ r', nxt s r k' = some r' ∧ Dd wr ws s e r' ((k + trn r + 72 - ws) % 72)
    constructor
    · rintro ((h | ⟨r', h, h'⟩) | ⟨r', h, h'⟩)
      · exact ⟨1, by decide, r, rfl, h⟩
      · exact ⟨0, by decide, r', h, h'⟩
      · exact ⟨2, by decide, r', h, h'⟩
    · rintro ⟨k', hk', r', h, h'⟩
      obtain rfl | rfl | rfl : k' = 0 ∨ k' = 1 ∨ k' = 2 := by omega
      · exact Or.inl (Or.inr ⟨r', h, h'⟩)
      · have : r = r' := Option.some.inj h
        subst this
        exact Or.inl (Or.inl h')
      · exact Or.inr ⟨r', h, h'⟩
  unfold f_X1_workLayer_10
  rw [if_neg (show ¬ 255 < nI r by rw [show (255 : Int32) = nI 255 from rfl, nI_ltI (by decide) (by omega)]; omega), ok_t (hk_t ha), h1, e_step hr hs, bd1_e, ok_t (hk_t ha), hR, bd1_e, show (2 : Int32) = nI 2 from rfl, pk_mul, nI_add, nm_u, ok_t (xk_t hb (ix_k (show 512 * e + 2 * r < 20992 by omega) (by decide))), nI_clamp (by omega), l1, nm_u, ok_t (hk_t ha), bd1_e, nI_1, nm_u, ok_t (xk_t hb (ix_k (show 512 * e + 2 * r + 1 < 20992 by omega) (by decide))), nI_clamp (by omega), l2, nm_u]
  by_cases q : stp s r ≤ r
  · rw [if_neg (show ¬ nI r < nI (stp s r) by rw [nI_ltI (by omega) (by omega)]; omega), pk_sub q, pk_mul, nI_add, ok_t (hk_t ha), bd1_e, nm_u]
    obtain ⟨X, Y, m1, m2, m3⟩ := hL.row (show r - stp s r ≤ 255 by omega)
    rw [ok_t (xk_t hb (ix_k (show 512 * e + 2 * (r - stp s r) < 20992 by omega) (by decide))), nI_clamp (by omega), m1, nm_u, ok_t (hk_t ha), bd1_e, nI_1, nm_u, ok_t (xk_t hb (ix_k (show 512 * e + 2 * (r - stp s r) + 1 < 20992 by omega) (by decide))), nI_clamp (by omega), m2, nm_u,
        wb_or (by have := l3.1.1; omega) (by have := m3.1.1; omega), wb_or (by have := l3.1.2; omega) (by have := m3.1.2; omega)]
    refine fin _ _ _ (l3.or m3) fun k => ?_
    unfold nxt
    rw [if_pos rfl, if_pos q]
    simp
  · rw [if_pos (show nI r < nI (stp s r) from nI_lt (by omega) (by omega))]
    refine fin _ _ _ l3 fun k => ?_
    unfold nxt
    rw [if_pos rfl, if_neg q]
    simp
theorem c_work (ha : sh a = some (1, 0)) (hR : R a 3 = some b) (hb : sh b = some (14, 20992)) (h0 : M a 0 = nI ws) (h1 : M a 1 = nI s) (hws : ws ≤ 10) (hs : s ≤ 20) {e : Nat} (he : e < 40) (hL : LayOK wr ws s e (L b)) :
    ∃ L', f_X1_workLayer sh M L R a (nI (e + 1)) = some L' ∧ (∀ c, c ≠ b → L' c = L c) ∧ (∀ j, j < 512 * (e + 1) → L' b j = L b j) ∧ LayOK wr ws s (e + 1) (L' b) := by
  have loop : ∀ (m r : Nat) (L' : px_L), r + m = 256 → (∀ c j, ¬ (c = b ∧ 512 * (e + 1) ≤ j) → L' c j = L c j) → (∀ r', r' < r → ∃ x y, L' b (512 * (e + 1) + 2 * r') = lN x ∧ L' b (512 * (e + 1) + 2 * r' + 1) = lN y ∧ RowOK (Dd wr ws s (e + 1) r') x y) →
      ∃ L2, lpf (fun a_ : Int32 × px_L => f_X1_workLayer_10 sh M a_.2 R a (nI (e + 1)) (nI (512 * e)) a_.1) (nI r, L') = some L2 ∧ (∀ c j, ¬ (c = b ∧ 512 * (e + 1) ≤ j) → L2 c j = L c j) ∧ (∀ r', r' < 256 → ∃ x y, L2 b (512 * (e + 1) + 2 * r') = lN x ∧ L2 b (512 * (e + 1) + 2 * r' + 1) = lN y ∧ RowOK (Dd wr ws s (e + 1) r') x y) := by
    intro m
    induction m with
    | zero =>
      intro r L' hr q1 q2
      obtain rfl : r = 256 := by omega
      refine ⟨L', lpf_end ?_, q1, q2⟩
      show f_X1_workLayer_10 sh M L' R a (nI (e + 1)) (nI (512 * e)) (nI 256) = _
      unfold f_X1_workLayer_10
      rw [if_pos (by decide)]
    | succ m ih =>
      intro r L' hr q1 q2
      have hL' : LayOK wr ws s e (L' b) := fun r hr => by
        rw [q1 b _ (by omega), q1 b _ (by omega)]; exact hL r hr
      obtain ⟨X, Y, g1, g2⟩ := c_row ha hR hb h0 h1 hws hs he (show r ≤ 255 by omega) hL'
      rw [lpf_go (body := fun a_ : Int32 × px_L => f_X1_workLayer_10 sh M a_.2 R a (nI (e + 1)) (nI (512 * e)) a_.1) (a := (nI r, L')) g1]
      refine ih (r + 1) _ (by omega) (fun c j hc => ?_) fun r' hr' => ?_
      · rw [pu_n (by omega), pu_n (by omega)]; exact q1 c j hc
      · by_cases e1 : r' = r
        · subst e1
          refine ⟨X, Y, ?_, px_u_in _ _ _ _, g2⟩
          rw [pu_n (by omega)]; exact px_u_in _ _ _ _
        · obtain ⟨x, y, k1, k2, k3⟩ := q2 r' (by omega)
          refine ⟨x, y, ?_, ?_, k3⟩
          · rw [pu_n (by omega), pu_n (by omega)]; exact k1
          · rw [pu_n (by omega), pu_n (by omega)]; exact k2
  obtain ⟨L2, k1, k2, k3⟩ := loop 256 0 L (by omega) (fun _ _ _ => rfl) (fun r' h => absurd h (by omega))
  refine ⟨L2, ?_, fun c hc => funext fun j => k2 c j (by omega), fun j hj => k2 b j (by omega), fun r hr => ?_⟩
  · unfold f_X1_workLayer
    rw [show (nI (e + 1) - 1) * 512 = nI (512 * e) by rw [show (1 : Int32) = nI 1 from rfl, pk_sub (by omega), show (512 : Int32) = nI 512 from rfl, pk_mul]; congr 1; omega, nm_u]
    rw [show lpf (fun a_ : Int32 × px_L => f_X1_workLayer_10 sh M a_.2 R a (nI (e + 1)) (nI (512 * e)) a_.1) (0, L) = _ from k1, bd1_e]
  · obtain ⟨x, y, g1, g2, g3⟩ := k3 r (by omega)
    exact ⟨x, y, g3.1, ⟨g1, g2⟩, g3.2.1, g3.2.2⟩
end CHART2
