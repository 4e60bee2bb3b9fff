/-! the class's rules: a code is worked on a stack -/
noncomputable def wk (v x y : Int32) : Int32 := (f_X7_work v x y).getD 0
theorem e_work (v x y : Int32) : f_X7_work v x y = some (wk v x y) := by
  have h : ∃ z, f_X7_work v x y = some z := by
    unfold f_X7_work f_X7_work_148 f_X7_work_137 f_X7_work_126 f_X7_work_115
    simp only [e_min, e_max, bd1_e]
    repeat' split
    all_goals first | exact ⟨_, rfl⟩ | skip
    next h => exact ⟨_, by rw [ok_t (nz_t h)]⟩
  obtain ⟨z, hz⟩ := h
  unfold wk
  rw [hz]; rfl
/-- one sign of a code -/
noncomputable def tok (vals : Nat → Int32) (t : Int32) (S : List Int32) : List Int32 :=
  if 0 < -t then
    if 0 ≤ -t - 307 ∧ -t - 307 ≤ 6 then (if 32 ≤ S.length then S else S ++ [vals (-t - 307).toNatClampNeg])
    else if S.length < 1 then S
    else if -t = 306 then S.set (S.length - 1) (1 - S.getD (S.length - 1) 0)
    else if S.length < 2 then S
    else (S.take (S.length - 1)).set (S.length - 2) (wk (-t) (S.getD (S.length - 2) 0) (S.getD (S.length - 1) 0))
  else if 32 ≤ S.length then S else S ++ [t]
theorem tok_len {vals : Nat → Int32} {t : Int32} {S : List Int32} (h : S.length ≤ 32) : (tok vals t S).length ≤ 32 := by
  unfold tok
  repeat' split
  all_goals (try simp only [List.length_append, List.length_set, List.length_take, List.length_singleton])
  all_goals omega
def StkI (M : px_M) (b : Nat) (S : List Int32) : Prop := S.length ≤ 32 ∧ ∀ j, j < S.length → M b j = S.getD j 0
section HOLDS
variable {sh : px_Sh} {M : px_M} {R : px_R} {A b0 b3 : Nat}
theorem StkI.push {Mx : px_M} {b : Nat} {S : List Int32} (h : StkI Mx b S) (hl : S.length < 32) (v : Int32) : StkI (px_u Mx b S.length v) b (S ++ [v]) := by
  refine ⟨by simp; omega, fun j hj => ?_⟩
  simp only [List.length_append, List.length_singleton] at hj
  by_cases e : j = S.length
  · subst e
    rw [px_u_in]
    simp
  · rw [pu_n (by omega), h.2 j (by omega)]
    simp [List.getElem?_append_left (show j < S.length by omega)]
theorem StkI.put {Mx : px_M} {b i : Nat} {S : List Int32} (h : StkI Mx b S) (hi : i < S.length) (v : Int32) : StkI (px_u Mx b i v) b (S.set i v) := by
  refine ⟨by simp; exact h.1, fun j hj => ?_⟩
  simp only [List.length_set] at hj
  by_cases e : j = i
  · subst e
    rw [px_u_in]
    simp [List.getElem?_set, hi]
  · rw [pu_n (by omega), h.2 j hj]
    simp [List.getElem?_set, show i ≠ j from fun z => e z.symm]
theorem StkI.cut {Mx : px_M} {b k : Nat} {S : List Int32} (h : StkI Mx b S) : StkI Mx b (S.take k) := by
  refine ⟨by simp; have := h.1; omega, fun j hj => ?_⟩
  simp only [List.length_take] at hj
  rw [h.2 j (by omega)]
  simp [List.getElem?_take, show j < k by omega]
end HOLDS
