/-! a whole code -/
noncomputable def runC (vals code : Nat → Int32) (p m : Nat) : List Int32 := fld (fun k S => tok vals (code k) S) p m []
section CODE
variable {sh : px_Sh} {M : px_M} {R : px_R} {A b0 b3 : Nat}
theorem c_holds (hA : sh A = some (7, 0)) (r0 : R A 0 = some b0) (r3 : R A 3 = some b3) (s0 : sh b0 = some (13, 300)) (s3 : sh b3 = some (13, 32)) (n0 : b0 ≠ b3) (n19 : (19 : Nat) ≠ b3) {p m : Nat} (hq : p + m ≤ 300) :
    ∃ M', f_X7_holds sh M R A (nI p) (nI (p + m)) = some (bI (runC (M 19) (M b0) p m = [1]), M') ∧ ∀ c j, c ≠ b3 → M' c j = M c j := by
  have loop : ∀ (g k : Nat) (Mx : px_M) (S : List Int32), k + g = p + m → StkI Mx b3 S → (∀ c j, c ≠ b3 → Mx c j = M c j) →
      ∃ M', lpf (fun a : Int32 × Int32 × px_M => f_X7_holds_6 sh a.2.2 R A (nI (p + m)) a.1 a.2.1) (nI S.length, nI k, Mx) = some (nI (fld (fun k S => tok (M 19) (M b0 k) S) k g S).length, M') ∧ StkI M' b3 (fld (fun k S => tok (M 19) (M b0 k) S) k g S) ∧ ∀ c j, c ≠ b3 → M' c j = M c j := by
    intro g
    induction g with
    | zero =>
      intro k Mx S hk hS hM
      refine ⟨Mx, lpf_end ?_, hS, hM⟩
      show f_X7_holds_6 sh Mx R A (nI (p + m)) (nI S.length) (nI k) = _
      unfold f_X7_holds_6
      rw [if_pos (nI_le (by omega) (by omega))]
      rfl
    | succ g ih =>
      intro k Mx S hk hS hM
      obtain ⟨My, g1, g2, g3⟩ := c_tok hA r0 r3 s0 s3 hq (show k < p + m by omega) hS
      have e19 : Mx 19 = M 19 := funext fun j => hM 19 j n19
      have e0 : Mx b0 k = M b0 k := hM b0 k n0
      rw [e19, e0] at g1 g2
      rw [lpf_go (body := fun a : Int32 × Int32 × px_M => f_X7_holds_6 sh a.2.2 R A (nI (p + m)) a.1 a.2.1) (a := (nI S.length, nI k, Mx)) g1]
      exact ih (k + 1) My _ (by omega) g2 (fun c j hc => (g3 c j hc).trans (hM c j hc))
  obtain ⟨M', g1, g2, g3⟩ := loop m p M [] (by omega) ⟨by simp, fun j hj => absurd hj (by simp)⟩ (fun _ _ _ => rfl)
  refine ⟨M', ?_, g3⟩
  obtain ⟨F, hF⟩ : ∃ F, F = runC (M 19) (M b0) p m := ⟨_, rfl⟩
  have hF' : fld (fun k S => tok (M 19) (M b0 k) S) p m [] = F := hF.symm
  rw [hF'] at g1 g2
  unfold f_X7_holds f_X7_holds_207 f_X7_holds_208
  rw [show lpf (fun a : Int32 × Int32 × px_M => f_X7_holds_6 sh a.2.2 R A (nI (p + m)) a.1 a.2.1) (0, nI p, M) = _ from g1, bd1_e, ← hF, ok_t zb0, ok_t zb1]
  have hl := g2.1
  by_cases e : F.length = 1
  · rw [if_pos (show (nI F.length, M').1 = 1 from by show nI F.length = 1; rw [e]; rfl), ok_t (hk_t hA), r3, bd1_e, ok_t (xk_t s3 (show ix 0 32 = true by decide))]
    show (if M' b3 0 = 1 then _ else _) = _
    rw [g2.2 0 (by omega)]
    obtain ⟨x, rfl⟩ : ∃ x, F = [x] := List.length_eq_one_iff.mp e
    show (if x = 1 then _ else _) = _
    by_cases e2 : x = 1
    · rw [if_pos e2, e2, bI_t rfl]
    · rw [if_neg e2, bI_f (fun z => e2 (by simpa using z))]
  · have : ¬ (nI F.length, M').1 = 1 := fun z => e ((nI_eq (b := 1) (by omega) (by decide)).mp z)
    rw [if_neg this, bI_f (fun z => e (by rw [z]; rfl))]
end CODE
