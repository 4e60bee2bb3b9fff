/-! which rule is held: the class's codes and the text's meaning -/
section HELD
variable {sh : px_Sh} {R : px_R} {n : Nat}
theorem run_seg (vals code : Nat → Int32) : ∀ (c : List Int32) (p : Nat) (S : List Int32), (∀ j, j < c.length → code (p + j) = c.getD j 0) → fld (fun k S => tok vals (code k) S) p c.length S = rnC vals c S
  | [], p, S, _ => rfl
  | t :: c, p, S, h => by
    show fld (fun k S => tok vals (code k) S) (p + 1) c.length (tok vals (code p) S) = rnC vals c (tok vals t S)
    have h0 := h 0 (by simp)
    rw [Nat.add_zero] at h0
    rw [h0]
    refine run_seg vals code c (p + 1) _ fun j hj => ?_
    have := h (j + 1) (by simp; omega)
    rw [show p + 1 + j = p + (j + 1) by omega, this]
    simp
theorem en_mid (L1 : List Rul) (r : Rul) (L2 : List Rul) : enL (L1 ++ r :: L2) L1.length = (cdsL L1).length + r.2.1.length ∧ bgn (enL (L1 ++ r :: L2)) L1.length = (cdsL L1).length := by
  have e1 : (L1 ++ r :: L2).take (L1.length + 1) = L1 ++ [r] := by
    rw [show L1 ++ r :: L2 = (L1 ++ [r]) ++ L2 by simp, show L1.length + 1 = (L1 ++ [r]).length by simp]
    exact List.take_left
  refine ⟨?_, ?_⟩
  · unfold enL
    rw [e1, cds_app, List.length_append]
  · unfold bgn
    by_cases q : L1.length = 0
    · rw [if_pos q, List.length_eq_zero_iff.mp q]
      rfl
    · rw [if_neg q]
      unfold enL
      rw [show L1.length - 1 + 1 = L1.length by omega, List.take_left]
theorem cds_mid (L1 : List Rul) (r : Rul) (L2 : List Rul) : cdsL (L1 ++ r :: L2) = cdsL L1 ++ r.2.1 ++ cdsL L2 := by unfold cdsL; simp
theorem hld_iff {L : List Rul} (hG : RuG n L) {vals code : Nat → Int32} (hc : ∀ j, j < (cdsL L).length → code j = (cdsL L).getD j 0) {L1 : List Rul} {r : Rul} {L2 : List Rul} (e : L = L1 ++ r :: L2) : hldC vals code (enL L) L1.length ↔ r.2.2 vals = 1 := by
  subst e
  obtain ⟨e1, e2⟩ := en_mid L1 r L2
  obtain ⟨-, g2, -⟩ := hG r (by simp)
  unfold hldC runC
  rw [e1, e2, show (cdsL L1).length + r.2.1.length - (cdsL L1).length = r.2.1.length by omega, run_seg vals code r.2.1 _ _ (fun j hj => ?_), g2 vals [] (by simp)]
  · simp
  · rw [hc _ (by rw [cds_mid]; simp; omega), cds_mid]
    simp [List.getElem?_append, hj]
    rw [if_neg (by omega)]
    rfl
theorem hlF_f (vals : Nat → Int32) {x : Int32 × Int32} (hx : x.1 ≠ -1) : ∀ (L : List Rul) (i : Nat), hlF vals L i x = x
  | [], _ => rfl
  | r :: L, i => by
    unfold hlF hlS
    rw [if_neg hx, ite_self]
    exact hlF_f vals hx L (i + 1)
theorem hlF_e (vals : Nat → Int32) : ∀ (L : List Rul) (i : Nat), i + L.length < 2 ^ 31 → (hlF vals L i (-1, 1) = (-1, 1) ∧ ∀ r, r ∈ L → r.2.2 vals = 0) ∨ ∃ L1 r L2, L = L1 ++ r :: L2 ∧ (∀ q, q ∈ L1 → q.2.2 vals = 0) ∧ ¬ r.2.2 vals = 0 ∧ hlF vals L i (-1, 1) = (nI (i + L1.length), nI r.1)
  | [], _, _ => Or.inl ⟨rfl, fun r hr => absurd hr (by simp)⟩
  | r :: L, i, hi => by
    by_cases h : r.2.2 vals = 0
    · have e : hlF vals (r :: L) i (-1, 1) = hlF vals L (i + 1) (-1, 1) := by
        show hlF vals L (i + 1) (hlS vals (-1, 1) i r) = _
        unfold hlS
        rw [if_pos h]
      rw [e]
      rcases hlF_e vals L (i + 1) (by simp at hi; omega) with ⟨a1, a2⟩ | ⟨L1, r', L2, a1, a2, a3, a4⟩
      · refine Or.inl ⟨a1, fun q hq => ?_⟩
        rcases List.mem_cons.mp hq with rfl | hq
        · exact h
        · exact a2 q hq
      · refine Or.inr ⟨r :: L1, r', L2, by rw [a1]; rfl, fun q hq => ?_, a3, by rw [a4]; simp; congr 1; omega⟩
        rcases List.mem_cons.mp hq with rfl | hq
        · exact h
        · exact a2 q hq
    · refine Or.inr ⟨[], r, L, rfl, fun q hq => absurd hq (by simp), h, ?_⟩
      show hlF vals L (i + 1) (hlS vals (-1, 1) i r) = _
      unfold hlS
      rw [if_neg h, if_pos rfl]
      have : (nI i, nI r.1).1 ≠ -1 := nI_ne1 (by simp at hi; omega)
      rw [hlF_f vals this]
      rfl
/-- the cells of the seven values -/
def fil (M : px_M) (vals : Nat → Int32) : px_M := fun c j => if c = 19 ∧ j < 7 then vals j else M c j
theorem fil_o {M : px_M} {vals : Nat → Int32} {c j : Nat} (h : c ≠ 19) : fil M vals c j = M c j := if_neg (fun z => h z.1)
theorem stL_mid (L1 : List Rul) (r : Rul) (L2 : List Rul) : stL (L1 ++ r :: L2) L1.length = r.1 := by
  unfold stL
  simp
theorem mem_split {L : List Rul} {i : Nat} (h : i < L.length) : ∃ L1 r L2, L = L1 ++ r :: L2 ∧ L1.length = i := by
  refine ⟨L.take i, L[i], L.drop (i + 1), ?_, by simp; omega⟩
  rw [List.getElem_cons_drop, List.take_append_drop]
/-- the class finds the rule that the text holds -/
theorem c_held {M : px_M} {A : Nat} (hA : sh A = some (7, 0)) (r0 : R A 0 = some (A + 1)) (r1 : R A 1 = some (A + 2)) (r3 : R A 3 = some (A + 4)) (s0 : sh (A + 1) = some (13, 300)) (s1 : sh (A + 2) = some (13, 16)) (s3 : sh (A + 4) = some (13, 32)) (hA19 : A + 4 ≠ 19) {L : List Rul} (hL : L.length ≤ 16) (h5 : M A 5 = nI L.length) (hG : RuG n L) (h300 : (cdsL L).length ≤ 300) (hcd : ∀ j, j < (cdsL L).length → M (A + 1) j = (cdsL L).getD j 0) (hen : ∀ i, i < L.length → M (A + 2) i = nI (enL L i)) :
    ∃ M', f_X7_firstHolding sh M R A = some ((hlF (M 19) L 0 (-1, 1)).1, M') ∧ (∀ c j, c ≠ A + 4 → M' c j = M c j) ∧ (((hlF (M 19) L 0 (-1, 1)).1 = -1 ∧ (hlF (M 19) L 0 (-1, 1)).2 = 1) ∨ ∃ i, i < L.length ∧ (hlF (M 19) L 0 (-1, 1)).1 = nI i ∧ (hlF (M 19) L 0 (-1, 1)).2 = nI (stL L i)) := by
  have hE : ∀ i, i < L.length → M (A + 2) i = nI (enL L i) ∧ bgn (enL L) i ≤ enL L i ∧ enL L i ≤ 300 := by
    intro i hi
    obtain ⟨L1, r, L2, e1, e2⟩ := mem_split hi
    subst e2
    obtain ⟨q1, q2⟩ := en_mid L1 r L2
    rw [← e1] at q1 q2
    refine ⟨hen _ hi, by omega, ?_⟩
    rw [e1, cds_mid] at h300
    simp only [List.length_append] at h300
    omega
  obtain ⟨z, M', g1, g2, g3⟩ := c_firstH (M := M) (E := enL L) (nr := L.length) hA r0 r1 r3 s0 s1 s3 (by omega) (by omega) (by omega) (by omega) hL h5 hE
  have key : z = (hlF (M 19) L 0 (-1, 1)).1 ∧ ((((hlF (M 19) L 0 (-1, 1)).1 = -1 ∧ (hlF (M 19) L 0 (-1, 1)).2 = 1)) ∨ ∃ i, i < L.length ∧ (hlF (M 19) L 0 (-1, 1)).1 = nI i ∧ (hlF (M 19) L 0 (-1, 1)).2 = nI (stL L i)) := by
    rcases hlF_e (M 19) L 0 (by omega) with ⟨a1, a2⟩ | ⟨L1, r, L2, a1, a2, a3, a4⟩
    · rw [a1]
      rcases g3 with ⟨rfl, -⟩ | ⟨i, i1, i2, i3, -⟩
      · exact ⟨rfl, Or.inl ⟨rfl, rfl⟩⟩
      · obtain ⟨K1, q, K2, e1, e2⟩ := mem_split i1
        subst e2
        have := (hld_iff hG hcd e1).mp i3
        rw [a2 q (by rw [e1]; simp)] at this
        exact absurd this (by decide)
    · have hr1 : r.2.2 (M 19) = 1 := ((hG r (by rw [a1]; simp)).2.2 (M 19)).resolve_left a3
      have hl1 : L1.length < L.length := by rw [a1]; simp
      rw [a4, Nat.zero_add]
      have hstl : stL L L1.length = r.1 := by rw [a1]; exact stL_mid L1 r L2
      refine ⟨?_, Or.inr ⟨L1.length, hl1, rfl, by rw [hstl]⟩⟩
      rcases g3 with ⟨-, b2⟩ | ⟨i, i1, i2, i3, i4⟩
      · exact absurd ((hld_iff hG hcd a1).mpr hr1) (b2 _ hl1)
      · have : i = L1.length := by
          by_cases c1 : i < L1.length
          · obtain ⟨K1, q, K2, e1, e2⟩ := mem_split c1
            have e3 : L = K1 ++ q :: (K2 ++ r :: L2) := by rw [a1, e1]; simp
            subst e2
            have h1 := (hld_iff hG hcd e3).mp i3
            rw [a2 q (by rw [e1]; simp)] at h1
            exact absurd h1 (by decide)
          · by_cases c2 : L1.length < i
            · exact absurd ((hld_iff hG hcd a1).mpr hr1) (i4 _ c2)
            · omega
        rw [i2, this]
  exact ⟨M', by rw [g1, key.1], g2, key.2⟩
end HELD
