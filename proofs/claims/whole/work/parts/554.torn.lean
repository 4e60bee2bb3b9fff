/-! torn panels, a rule's steer -/
def tornC (M : px_M) (pa : Nat → Nat) (np : Nat) : Int32 := fld (fun i s => s + if M (pa i) 5 = 0 then 0 else 1) 0 np 0
section TORN
variable {sh : px_Sh} {M : px_M} {R : px_R} {np A b2_ nr : Nat} {pa : Nat → Nat}
theorem c_torn (hP : PaC sh M R np pa) : f_X8_tornPanels sh M R = some (tornC M pa np) := by
  obtain ⟨h16, p2, p3, p4⟩ := hP
  have K := lpf_for (body := fun a : Int32 × Int32 => f_X8_tornPanels_4 sh M R a.1 a.2) (fun i (s : Int32) => (s, nI i)) (fun i s => s + if M (pa i) 5 = 0 then 0 else 1) (fun _ _ => True) (fun s => s) np
    (fun i s hi _ => by
      have hp := p3 i hi
      refine ⟨?_, trivial⟩
      show f_X8_tornPanels_4 sh M R s (nI i) = _
      unfold f_X8_tornPanels_4 f_X8_tornPanels_30
      rw [p2, if_neg (nI_ge hi (by omega)), ok_t (ix_k (show i < 16 by omega) (by decide)), nI_clamp (show i < 2 ^ 31 by omega), hp.1, bd1_e, ok_t (hk_t hp.2.1), nI_1, nm_u, nm_u]
      by_cases q : M (pa i) 5 = 0
      · rw [if_pos q, if_pos q]
      · rw [if_neg q, if_neg q])
    (fun s _ => by
      show f_X8_tornPanels_4 sh M R s (nI np) = _
      unfold f_X8_tornPanels_4
      rw [p2, if_pos (Int32.le_refl _)]) np 0 0 (by omega) trivial
  unfold f_X8_tornPanels
  rw [show ((0, 0) : Int32 × Int32) = (0, nI 0) from rfl, K.1]
  rfl
theorem c_steerOf (hA : sh A = some (7, 0)) (r2 : R A 2 = some b2_) (s2 : sh b2_ = some (13, 16)) (hnr : nr ≤ 16) (h5 : M A 5 = nI nr) {i : Nat} (hi : i < nr) : f_X7_steerOf sh M R A (nI i) = some (M b2_ i) := by
  unfold f_X7_steerOf f_X7_steerOf_24
  rcases rng (nI i) (k := nr) (by omega) with ⟨w', hw', e, w1, w2⟩ | ⟨z, -, -⟩
  · rw [ok_t (hk_t hA), h5, w1, bd1_e, if_neg (by decide), ok_t (hk_t hA), r2, bd1_e, ok_t (xk_t s2 (ix_k (show i < 16 by omega) (by decide))), nI_clamp (show i < 2 ^ 31 by omega)]
  · exact absurd rfl (z i hi)
end TORN
