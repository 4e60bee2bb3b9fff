/-! the seven values, for both -/
section FILL
variable {sh : px_Sh} {M : px_M} {L : px_L} {R : px_R} {np nf nw d r a nd : Nat} {pa fp wa ch ly : Nat → Nat}
theorem SailI.pac (h : SailI sh M R np nf pa fp) : PaC sh M R np pa := ⟨h.1.1, h.2.1.1, fun i hi => (h.2.2.1 i hi).1, h.2.2.2.1⟩
theorem m_str_loc (h : SailI sh M R np nf pa fp) {M' : px_M} (hM : ∀ c j, 73 ≤ c → c ≤ 218 → md sh c j = 2 → M' c j = M c j) : f_X12_strength M' = some (vStr M pa np) := by
  have e := loc_strength (M := fun c j => if 73 ≤ c ∧ c ≤ 218 then M' c j else M c j) (M' := M') (fun c h1 h2 => by
    funext j
    exact (if_pos ⟨h1, h2⟩).symm)
  rw [e]
  refine m_strength h fun c j hm => ?_
  by_cases q : 73 ≤ c ∧ c ≤ 218
  · rw [if_pos q]; exact hM c j q.1 q.2 hm
  · rw [if_neg q]
def v7 (v0 v1 v2 v3 v4 v5 v6 : Int32) (k : Nat) : Int32 := if k = 0 then v0 else if k = 1 then v1 else if k = 2 then v2 else if k = 3 then v3 else if k = 4 then v4 else if k = 5 then v5 else v6
theorem px_7 (Mc : px_M) (v0 v1 v2 v3 v4 v5 v6 : Int32) : px_u (px_u (px_u (px_u (px_u (px_u (px_u Mc 19 0 v0) 19 1 v1) 19 2 v2) 19 3 v3) 19 4 v4) 19 5 v5) 19 6 v6 = fil Mc (v7 v0 v1 v2 v3 v4 v5 v6) := by
  funext c j
  unfold fil px_u
  by_cases h1 : c = 19
  · subst h1
    simp only [true_and]
    by_cases h : j < 7
    · rw [if_pos h]
      obtain rfl | rfl | rfl | rfl | rfl | rfl | rfl : j = 0 ∨ j = 1 ∨ j = 2 ∨ j = 3 ∨ j = 4 ∨ j = 5 ∨ j = 6 := by omega
      all_goals rfl
    · rw [if_neg h, if_neg (by omega), if_neg (by omega), if_neg (by omega), if_neg (by omega), if_neg (by omega), if_neg (by omega), if_neg (by omega)]
  · simp [h1]
theorem torn_c {Mc : px_M} (h : ∀ i, i < np → Mc (pa i) 5 = M (pa i) 5) : tornC Mc pa np = tornC M pa np := by
  unfold tornC
  exact fld_congr _ _ _ fun j _ hj s => by simp only [h j (by omega)]
theorem m_torn (h : SailI sh M R np nf pa fp) {M' : px_M} (h9 : M' 73 9 = nI np) (h86 : ∀ i, M' 86 i = M 86 i) (x1 x2 x3 : Int32) : lpf (fun a : Int32 × Int32 => f_X12_named_63 M' x1 x2 x3 a.1 a.2) (0, 0) = some (tornC M pa np) := by
  obtain ⟨h1, h2, h3, h4, -⟩ := h
  have K := lpf_for (body := fun a : Int32 × Int32 => f_X12_named_63 M' x1 x2 x3 a.1 a.2) (fun i (s : Int32) => (s, nI i)) (fun i s => s + if M (pa i) 5 = 0 then 0 else 1) (fun _ _ => True) (fun s => s) np
    (fun i s hi _ => by
      refine ⟨?_, trivial⟩
      have e5 : M (pa i) 5 = M 86 i := (h3 i hi).2.1.2.2.2.2.2.1
      show f_X12_named_63 M' x1 x2 x3 s (nI i) = _
      unfold f_X12_named_63 f_X12_named_89
      rw [h9, if_neg (nI_ge hi (by omega)), ok_t (ix_k (show i < 16 by omega) (by decide)), nI_clamp (show i < 2 ^ 31 by omega), h86, ← e5, nI_1, nm_u, nm_u]
      by_cases q : M (pa i) 5 = 0
      · rw [if_pos q, if_pos q]
      · rw [if_neg q, if_neg q])
    (fun s _ => by
      show f_X12_named_63 M' x1 x2 x3 s (nI np) = _
      unfold f_X12_named_63
      rw [h9, if_pos (Int32.le_refl _)]) np 0 0 (by omega) trivial
  rw [show ((0, 0) : Int32 × Int32) = (0, nI 0) from rfl, K.1]
  rfl
/-- the class fills in the values that the reference names -/
theorem c_fill (hA : SailI sh M R np nf pa fp) (hW : WI sh M L R nw wa ch ly) (hV : VI M nw d r a nd) : ∃ vals : Nat → Int32, NmI sh M vals ∧ ∀ Mc : px_M, (∀ c j, (c < 73 ∨ 219 ≤ c) → Mc c j = M c j) → ∀ A, sh A = some (7, 0) → f_X9_firstRule sh Mc R A (vStr M pa np) = bd1 (f_X7_firstHolding sh (fil Mc vals) R A) fun e => some (e.1, e.2) := by
  obtain ⟨s, hs, es⟩ := cl20_r (sY M pa np 3 / 100)
  have es' : vStr M pa np = nI s := es
  obtain ⟨v1, v2, v3, -, -⟩ := hV
  obtain ⟨y1, y2, y3, y4, y5, y6, y7, y8, y9, y10⟩ := v2
  -- what both have for far and lead
  obtain ⟨far, lead, hfl⟩ : ∃ far lead : Int32, (M 14 3 = -1 ∧ far = 0 ∧ lead = 0) ∨ ∃ g wr an ws, g < nw ∧ M 14 3 = nI g ∧ (wr ≤ 255 ∧ an < 72 ∧ ws ≤ 10) ∧ (M 90 g = nI wr ∧ M 91 g = nI an ∧ M 92 g = nI ws) ∧ (M (wa g) 0 = nI wr ∧ M (wa g) 1 = nI an ∧ M (wa g) 2 = nI ws) ∧ (R 15 g = some (wa g) ∧ sh (wa g) = some (10, 0) ∧ 220 ≤ wa g) ∧ far = nI wr - nI r ∧ lead = nI (((an + ws * d) % 72 + 72 - a) % 72) := by
    rcases v3.2 with e | ⟨g, hg, e⟩
    · exact ⟨0, 0, Or.inl ⟨e, rfl, rfl⟩⟩
    · obtain ⟨k0, k4, wr, an, ws, k5, k6, -⟩ := hW.2.2.1 g hg
      exact ⟨_, _, Or.inr ⟨g, wr, an, ws, hg, e, k5, k6, ⟨by rw [k4.1, k6.1], by rw [k4.2.1, k6.2.1], by rw [k4.2.2, k6.2.2]⟩, k0, rfl, rfl⟩⟩
  refine ⟨v7 (nI r) (nI a) (nI d) far lead (nI (stp s r)) (tornC M pa np), fun M' hM' k hk => ?_, fun Mc hMc A hAs => ?_⟩
  · -- the reference
    have m3 : ∀ j, md sh 73 j = 3 → M' 73 j = M 73 j := fun j hj => hM' 73 j (by omega) (by omega) (Or.inr hj)
    have hstr : f_X12_strength M' = some (nI s) := by rw [← es']; exact m_str_loc hA fun c j h1 h2 hm => hM' c j h1 h2 (Or.inl hm)
    have e9 : M' 73 9 = nI np := by rw [hM' 73 9 (by omega) (by omega) (Or.inl rfl)]; exact hA.2.1.2.1
    have e86 : ∀ i, M' 86 i = M 86 i := fun i => hM' 86 i (by omega) (by omega) (Or.inl rfl)
    have e24 : M' 73 24 = nI d := by rw [m3 24 rfl]; exact y4
    have e25 : M' 73 25 = nI r := by rw [m3 25 rfl]; exact y6
    have e26 : M' 73 26 = nI a := by rw [m3 26 rfl]; exact y8
    have e28 : M' 73 28 = M 14 3 := by rw [m3 28 rfl]; exact v3.1.symm
    have fin : ∀ z0 : Int32, (z0 = lead ∨ (¬ 0 ≤ z0 ∧ z0 + 72 = lead)) → (0 ≤ z0 → z0 = lead) → f_X12_named_56 M' (nI k) far z0 = some (v7 (nI r) (nI a) (nI d) far lead (nI (stp s r)) (tornC M pa np) k) := by
      intro z0 hz hz2
      unfold f_X12_named_56 f_X12_named_183 v7
      rw [m_torn hA e9 e86, bd1_e, hstr, bd1_e, e25, e_step2 v1.2.2.1 hs, bd1_e, e26, e24, ifi (eqL (a := k) (b := 0) 0 rfl (by omega) (by decide)), ifi (eqL (a := k) (b := 1) 1 rfl (by omega) (by decide)), ifi (eqL (a := k) (b := 2) 2 rfl (by omega) (by decide)), ifi (eqL (a := k) (b := 3) 3 rfl (by omega) (by decide)), ifi (eqL (a := k) (b := 4) 4 rfl (by omega) (by decide)), ifi (eqL (a := k) (b := 5) 5 rfl (by omega) (by decide))]
      have hl : (if 0 ≤ z0 then some z0 else some (z0 + 72)) = some lead := by
        by_cases q : 0 ≤ z0
        · rw [if_pos q, hz2 q]
        · rcases hz with e | ⟨-, e⟩
          · exfalso
            apply q
            rw [e]
            rcases hfl with ⟨-, -, e2⟩ | ⟨g, wr, an, ws, -, -, -, -, -, -, -, e2⟩
            · rw [e2]; decide
            · rw [e2]; exact nI_pos' (by omega)
          · rw [if_neg q, e]
      rw [hl]
      obtain rfl | rfl | rfl | rfl | rfl | rfl | rfl : k = 0 ∨ k = 1 ∨ k = 2 ∨ k = 3 ∨ k = 4 ∨ k = 5 ∨ k = 6 := by omega
      all_goals rfl
    unfold f_X12_named f_X12_named_26
    rcases hfl with ⟨q1, q2, q3⟩ | ⟨g, wr, an, ws, g1, g2, g3, g4, g5, g6, g7, g8⟩
    · rw [if_pos (show M' 73 28 = -1 by rw [e28]; exact q1), if_pos (show M' 73 28 = -1 by rw [e28]; exact q1)]
      subst q2 q3
      exact fin 0 (Or.inl rfl) (fun _ => rfl)
    · have hne : ¬ M' 73 28 = -1 := by rw [e28, g2]; exact nI_ne1 (by omega)
      have hm2 : ws * d ≤ 10 * 2000 := Nat.mul_le_mul g3.2.2 v1.2.1
      have e90 : M' 90 g = nI wr := by rw [hM' 90 g (by omega) (by omega) (Or.inr rfl)]; exact g4.1
      have e91 : M' 91 g = nI an := by rw [hM' 91 g (by omega) (by omega) (Or.inr rfl)]; exact g4.2.1
      have e92 : M' 92 g = nI ws := by rw [hM' 92 g (by omega) (by omega) (Or.inr rfl)]; exact g4.2.2
      have hang : f_X12_angleOf M' (nI g) (nI d) = some (nI ((an + ws * d) % 72)) := by
        unfold f_X12_angleOf
        rw [ok_t (ix_k (show g < 4 by omega) (by decide)), ok_t (ix_k (show g < 4 by omega) (by decide)), nI_clamp (show g < 2 ^ 31 by omega), e91, e92, pk_mul ws, nI_add an, show (72 : Int32) = nI 72 from rfl, pk_rem (by omega) (by decide) (by decide)]
      rw [if_neg hne, nm_u, if_neg hne, e28, g2, ok_t (ix_k (show g < 4 by omega) (by decide)), nI_clamp (show g < 2 ^ 31 by omega), e90, e25, e24, hang, bd1_e, e26, ← g7]
      obtain ⟨G, eG⟩ : ∃ G, G = (an + ws * d) % 72 := ⟨_, rfl⟩
      have hG : G < 72 := by rw [eG]; exact Nat.mod_lt _ (by decide)
      rw [← eG] at g8 ⊢
      by_cases c : a ≤ G
      · rw [pk_sub c]
        have e2 : nI (G - a) = lead := by rw [g8]; congr 1; omega
        exact fin _ (Or.inl e2) (fun _ => e2)
      · have e3 : nI G - nI a + 72 = lead := by
          rw [g8, show (72 : Int32) = nI 72 from rfl, show nI G - nI a + nI 72 = nI (G + 72) - nI a by rw [← nI_add]; grind, pk_sub (by omega)]
          congr 1; omega
        have e4 : ¬ 0 ≤ nI G - nI a := by
          have := (by decide +kernel : ∀ a, a < 72 → ∀ G, G < a → ¬ 0 ≤ nI G - nI a) a v1.2.2.2.1 G (by omega)
          exact this
        exact fin _ (Or.inr ⟨e4, e3⟩) (fun z => absurd z e4)
  · -- the class
    have f14 : ∀ j, Mc 14 j = M 14 j := fun j => hMc 14 j (by omega)
    have hPc : PaC sh Mc R np pa := by
      obtain ⟨p1, p2, p3, p4⟩ := hA.pac
      exact ⟨p1, by rw [hMc 6 1 (by omega)]; exact p2, p3, p4⟩
    unfold f_X9_firstRule f_X9_firstRule_71 f_X9_firstRule_112 f_X9_hasWorld
    have z0 : (0 : Int32).toNatClampNeg = 0 := rfl
    have z1 : (1 : Int32).toNatClampNeg = 1 := rfl
    have z2 : (2 : Int32).toNatClampNeg = 2 := rfl
    have z3 : (3 : Int32).toNatClampNeg = 3 := rfl
    have z4 : (4 : Int32).toNatClampNeg = 4 := rfl
    have z5 : (5 : Int32).toNatClampNeg = 5 := rfl
    have z6 : (6 : Int32).toNatClampNeg = 6 := rfl
    have n14 : ∀ (X : px_M) (j v) (i : Nat), px_u X 19 j v 14 i = X 14 i := fun X j v i => pu_n (by omega)
    have hte : ∀ X : px_M, (∀ c j, c ≠ 19 → X c j = Mc c j) → f_X8_tornPanels sh X R = some (tornC M pa np) := by
      intro X hX
      obtain ⟨p1, p2, p3, p4⟩ := hPc
      rw [c_torn (M := X) ⟨p1, by rw [hX 6 1 (by decide)]; exact p2, p3, p4⟩, torn_c (M := M)]
      intro i hi
      have := (p3 i hi).2.2
      rw [hX _ _ (by omega), hMc _ _ (by omega)]
    simp only [z0, z1, z2, z3, z4, z5, z6, nm_u, n14, f14, y3, y5, y7, y1, es', e_step v1.2.2.1 hs, bd1_e, ok_t (show ix 3 7 = true by decide), ok_t (show ix 4 7 = true by decide), ok_t (hk_t hAs)]
    rcases hfl with ⟨q1, q2, q3⟩ | ⟨g, wr, an, ws, g1, g2, g3, g4, g5, g6, g7, g8⟩
    · rw [q1, e_within, bI_f (fun z => absurd z.1 (by decide)), bd1_e, ok_t zb0, bd1_e, if_pos rfl, if_pos rfl, hte _ (fun c j hc => by rw [pu_n (by omega), pu_n (by omega), pu_n (by omega), pu_n (by omega), pu_n (by omega), pu_n (by omega)]), bd1_e, px_7, q2, q3]
    · have hm2 : ws * d ≤ 10 * 2000 := Nat.mul_le_mul g3.2.2 v1.2.1
      have hw1 : f_X11_within (nI g) 0 (nI nw - 1) = some 1 := by
        rcases rng (nI g) (k := nw) (by omega) with ⟨g', hg', e', w1, w2⟩ | ⟨zz, -, -⟩
        · exact w1
        · exact absurd rfl (zz g g1)
      have nwa : ∀ (X : px_M) (j v) (i : Nat), px_u X 19 j v (wa g) i = X (wa g) i := fun X j v i => pu_n (by have := g6.2.2; omega)
      have fwa : ∀ i, Mc (wa g) i = M (wa g) i := fun i => hMc _ i (by have := g6.2.2; omega)
      have hang : ∀ X : px_M, X (wa g) 1 = nI an → X (wa g) 2 = nI ws → f_X10_angleOn sh X (wa g) (nI d) = some (nI ((an + ws * d) % 72)) := by
        intro X x1 x2
        unfold f_X10_angleOn
        rw [ok_t (hk_t g6.2.1), ok_t (hk_t g6.2.1), x1, x2, pk_mul ws, nI_add an, show (72 : Int32) = nI 72 from rfl, pk_rem (by omega) (by decide) (by decide)]
      have hG : (an + ws * d) % 72 < 72 := Nat.mod_lt _ (by decide)
      rw [g2, hw1, bd1_e, ok_t zb1, bd1_e, if_neg (show ¬ (1 : Int32) = 0 by decide), ok_t (ix_k (show g < 4 by omega) (by decide)), nI_clamp (show g < 2 ^ 31 by omega), g6.1, bd1_e, ok_t (hk_t g6.2.1), if_neg (show ¬ (1 : Int32) = 0 by decide), ok_t (ix_k (show g < 4 by omega) (by decide)), bd1_e, ok_t (hk_t g6.2.1), hang _ (by rw [nwa, nwa, nwa, nwa, fwa]; exact g5.2.1) (by rw [nwa, nwa, nwa, nwa, fwa]; exact g5.2.2), bd1_e, e_fm (by omega) (by omega), bd1_e, ← g8, nwa, nwa, nwa, fwa, g5.1, ← g7, hte _ (fun c j hc => by rw [pu_n (by omega), pu_n (by omega), pu_n (by omega), pu_n (by omega), pu_n (by omega), pu_n (by omega)]), bd1_e, px_7]
end FILL
