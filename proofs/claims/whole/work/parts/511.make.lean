/-! the chart is made at the first question -/
theorem px_c_n {α : Type} {f : Nat → α} {a b : Nat} {x : α} (h : b ≠ a) : px_c f a x b = f b := if_neg h
theorem lay7 : ∀ h, h < 36 → (((7 : Nat).testBit h = true) ↔ (h ≤ 2 ∨ 70 ≤ h)) := by decide
theorem lay51 : ∀ h, h < 36 → (((51539607552 : Nat).testBit h = true) ↔ (h + 36 ≤ 2 ∨ 70 ≤ h + 36)) := by decide +kernel
section MAKE
variable {sh : px_Sh} {M : px_M} {L : px_L} {R : px_R} {n A wr ws : Nat}
theorem c_rows {sh' : px_Sh} {M' : px_M} {R' : px_R} {n' C Y : Nat} (hC : sh' C = some (1, 0)) (hR : R' C 3 = some Y) (hY : sh' Y = some (14, 20992)) {hi : Nat} (hhi : hi ≤ 255) : ∀ (m r : Nat) (Lx : px_L), r + m = hi + 1 →
    ∃ Ly, lpf (fun a : Int32 × px_L => f_X1_init_45 sh' M' a.2 R' n' C (nI hi) a.1) (nI r, Lx) = some Ly ∧ (∀ c, c ≠ Y → Ly c = Lx c) ∧ (∀ j, ¬ (2 * r ≤ j ∧ j < 2 * (hi + 1)) → Ly Y j = Lx Y j) ∧ ∀ g, r ≤ g → g ≤ hi → Ly Y (2 * g) = 7 ∧ Ly Y (2 * g + 1) = 51539607552 := by
  intro m
  induction m with
  | zero =>
    intro r Lx hm
    refine ⟨Lx, lpf_end ?_, fun _ _ => rfl, fun _ _ => rfl, fun g g1 g2 => absurd g1 (by omega)⟩
    show f_X1_init_45 sh' M' Lx R' n' C (nI hi) (nI r) = _
    unfold f_X1_init_45
    rw [if_pos (nI_lt (by omega) (by omega))]
  | succ m ih =>
    intro r Lx hm
    have hb : f_X1_init_45 sh' M' Lx R' n' C (nI hi) (nI r) = some (.inl (nI (r + 1), px_u (px_u Lx Y (2 * r) 7) Y (2 * r + 1) 51539607552)) := by
      unfold f_X1_init_45
      rw [if_neg (show ¬ nI hi < nI r by rw [nI_ltI (by omega) (by omega)]; omega), ok_t (hk_t hC), hR, bd1_e, show (2 : Int32) = nI 2 from rfl, pk_mul, ok_t (xk_t hY (ix_k (show 2 * r < 20992 by omega) (by decide))), nI_clamp (show 2 * r < 2 ^ 31 by omega), nm_u, ok_t (hk_t hC), bd1_e, nI_1, ok_t (xk_t hY (ix_k (show 2 * r + 1 < 20992 by omega) (by decide))), nI_clamp (show 2 * r + 1 < 2 ^ 31 by omega), nm_u, nI_1]
    rw [lpf_go (body := fun a : Int32 × px_L => f_X1_init_45 sh' M' a.2 R' n' C (nI hi) a.1) (a := (nI r, Lx)) hb]
    obtain ⟨Ly, g1, g2, g3, g4⟩ := ih (r + 1) (px_u (px_u Lx Y (2 * r) 7) Y (2 * r + 1) 51539607552) (by omega)
    refine ⟨Ly, g1, fun c hc => ?_, fun j hj => ?_, fun g k1 k2 => ?_⟩
    · rw [g2 c hc]; funext j; rw [pu_n (by omega), pu_n (by omega)]
    · rw [g3 j (by omega), pu_n (by omega), pu_n (by omega)]
    · by_cases e : g = r
      · subst e
        rw [g3 _ (by omega), g3 _ (by omega), pu_n (by omega), px_u_in, px_u_in]
        exact ⟨rfl, rfl⟩
      · exact g4 g (by omega) k2
theorem c_make (hA : sh A = some (10, 0)) (hA2 : 220 ≤ A) (hn : 220 ≤ n) (hfree : ∀ c, n ≤ c → sh c = none) (hR : R A 3 = none) (hm : M A 0 = nI wr ∧ M A 2 = nI ws) (hwr : wr ≤ 255) :
    ∃ M0 L0, (∀ p e, f_X10_chartFor (px_c (px_c sh n (some (1, 0))) (n + 1) (some (14, 20992))) M0 (px_u (px_u (px_c (px_c R n (fun _ => none)) (n + 1) (fun _ => none)) n 3 (some (n + 1))) A 3 (some n)) A p = some e → f_X10_chartForN sh M L R n A p = some (e.1, px_c (px_c sh n (some (1, 0))) (n + 1) (some (14, 20992)), e.2, L0, px_u (px_u (px_c (px_c R n (fun _ => none)) (n + 1) (fun _ => none)) n 3 (some (n + 1))) A 3 (some n), n + 2)) ∧
      (∀ c j, c ≠ n → c ≠ n + 1 → M0 c j = M c j) ∧ (∀ c, c ≠ n → c ≠ n + 1 → L0 c = L c) ∧ M0 n 0 = nI ws ∧ M0 n 1 = -1 ∧ LayOK wr ws 0 0 (L0 (n + 1)) := by
  have hAn : A < n := Nat.lt_of_not_le fun q => by rw [hfree A q] at hA; cases hA
  obtain ⟨sh2, hsh2⟩ : ∃ sh2, sh2 = px_c (px_c sh n (some (1, 0))) (n + 1) (some (14, 20992)) := ⟨_, rfl⟩
  obtain ⟨R15, hR15⟩ : ∃ R15, R15 = px_u (px_c (px_c R n (fun _ => none)) (n + 1) (fun _ => none)) n 3 (some (n + 1)) := ⟨_, rfl⟩
  rw [← hsh2, ← hR15]
  have sA : sh2 A = some (10, 0) := by rw [hsh2, px_c_n (by omega), px_c_n (by omega)]; exact hA
  have s1 : px_c sh n (some (1, 0)) n = some (1, 0) := px_c_in _ _ _
  have s1A : px_c sh n (some (1, 0)) A = some (10, 0) := by rw [px_c_n (by omega)]; exact hA
  have sn : sh2 n = some (1, 0) := by rw [hsh2, px_c_n (by omega)]; exact s1
  have sy : sh2 (n + 1) = some (14, 20992) := by rw [hsh2]; exact px_c_in _ _ _
  have rn : R15 n 3 = some (n + 1) := by rw [hR15]; exact px_u_in _ _ _ _
  obtain ⟨hi, hhi⟩ : ∃ hi, hi = (if wr + 4 < 255 then wr + 4 else 255) := ⟨_, rfl⟩
  have hi1 : hi ≤ 255 := by rw [hhi]; split <;> omega
  have hlo : wr - 4 ≤ hi + 1 := by rw [hhi]; split <;> omega
  obtain ⟨M20, hM20⟩ : ∃ M20, M20 = px_u (px_c (px_u (px_c M n (fun _ => 0)) n 1 (-1)) (n + 1) (fun _ => 0)) n 0 (nI ws) := ⟨_, rfl⟩
  obtain ⟨Ly, g1, g2, g3, g4⟩ := c_rows (M' := M20) (n' := n + 1 + 1) sn rn sy hi1 (hi + 1 - (wr - 4)) (wr - 4) (px_c (px_c L n (fun _ => 0)) (n + 1) (fun _ => 0)) (by omega)
  have mA0 : px_c M n (fun _ => 0) A 0 = nI wr := by rw [px_c_n (by omega)]; exact hm.1
  have mA2 : px_c M n (fun _ => 0) A 2 = nI ws := by rw [px_c_n (by omega)]; exact hm.2
  have emax : f_J9_max_7cf53 0 (nI wr - 4) = some (nI (wr - 4)) := by
    rw [e_max]
    congr 1
    by_cases q : 4 < wr
    · rw [show (4 : Int32) = nI 4 from rfl, pk_sub (by omega), if_pos (show 0 < nI (wr - 4) from nI_lt (a := 0) (by omega) (by omega))]
    · have : ¬ (0 : Int32) < nI wr - 4 := by
        rw [Int32.lt_iff_toInt_lt, show (nI wr - 4).toInt = (wr : Int) - 4 from pk_sub_toInt (b := 4) (by omega) (by decide), show (0 : Int32).toInt = 0 by decide]
        omega
      rw [if_neg this, show wr - 4 = 0 by omega]
      rfl
  have emin : f_J9_min_7cf53 255 (nI wr + 4) = some (nI hi) := by
    rw [e_min, hhi, show nI wr + 4 = nI (wr + 4) from nI_add wr 4]
    congr 1
    by_cases q : wr + 4 < 255
    · rw [if_pos q, if_pos (show nI (wr + 4) < 255 from nI_lt (b := 255) q (by decide))]
    · rw [if_neg q, if_neg (show ¬ nI (wr + 4) < 255 by rw [show (255 : Int32) = nI 255 from rfl, nI_ltI (by omega) (by decide)]; omega)]
      rfl
  have hinit : f_X1_init (px_c sh n (some (1, 0))) (px_c M n (fun _ => 0)) (px_c L n (fun _ => 0)) (px_c R n (fun _ => none)) (n + 1) n (nI wr) (nI ws) = some (sh2, M20, Ly, R15, n + 2) := by
    unfold f_X1_init
    rw [ok_t (hk_t s1), nm_u, nm_u, ← hsh2, nm_u, nm_u, nm_u, ok_t (hk_t sn), ok_t (decide_eq_true hn), ← hR15, nm_u, ok_t (hk_t sn), nm_u, ← hM20, emax, bd1_e, emin, bd1_e, g1, bd1_e]
  refine ⟨M20, Ly, fun p e he => ?_, fun c j c1 c2 => ?_, fun c c1 c2 => ?_, ?_, ?_, fun r hr => ?_⟩
  · unfold f_X10_chartFor at he
    have rA : px_u R15 A 3 (some n) A 3 = some n := px_u_in _ _ _ _
    rw [ok_t (hk_t sA), rA, bd1_e, ok_t (hk_t sA), bd1_e, ok_t (hk_t sn)] at he
    unfold f_X10_chartForN
    rw [ok_t (hk_t hA), ok_t (by rw [hR]; rfl), nm_u, nm_u, nm_u, nm_u, ok_t (hk_t s1A), ok_t (hk_t s1A), mA0, mA2, hinit, bd1_e]
    show ok (hk sh2 A 10) (ok (decide (220 ≤ A)) (nm (px_u R15 A 3 (some n)) _)) = _
    rw [ok_t (hk_t sA), ok_t (decide_eq_true hA2), nm_u]
    show ok (hk sh2 A 10) _ = _
    rw [ok_t (hk_t sA), rA, bd1_e]
    show ok (hk sh2 n 1) (bd1 (f_X1_fitTo sh2 M20 n p) _) = _
    rw [ok_t (hk_t sn)]
    cases hf : f_X1_fitTo sh2 M20 n p with
    | none => rw [hf] at he; cases he
    | some Mf =>
      rw [hf, bd1_e, ok_t (hk_t sA), bd1_e] at he
      rw [bd1_e]
      show ok (hk sh2 A 10) _ = _
      rw [ok_t (hk_t sA), bd1_e]
      cases he
      rfl
  · rw [hM20, pu_n (by omega), px_c_n c2, pu_n (by omega), px_c_n c1]
  · rw [g2 c c2, px_c_n c2, px_c_n c1]
  · rw [hM20]; exact px_u_in _ _ _ _
  · rw [hM20, pu_n (by omega), px_c_n (by omega)]; exact px_u_in _ _ _ _
  · by_cases q : wr ≤ r + 4 ∧ r ≤ wr + 4
    · have q1 : wr - 4 ≤ r := by omega
      have q2 : r ≤ hi := by rw [hhi]; split <;> omega
      obtain ⟨k1, k2⟩ := g4 r q1 q2
      refine ⟨7, 51539607552, by decide, ⟨by rw [Nat.mul_zero, Nat.zero_add, k1]; rfl, by rw [Nat.mul_zero, Nat.zero_add, k2]; rfl⟩, fun h hh => ?_, fun h hh => ?_⟩
      · rw [lay7 h hh]
        exact ⟨fun z => ⟨q, z⟩, fun z => z.2⟩
      · rw [lay51 h hh]
        exact ⟨fun z => ⟨q, z⟩, fun z => z.2⟩
    · have q1 : ¬ (2 * (wr - 4) ≤ 2 * r ∧ 2 * r < 2 * (hi + 1)) := by rw [hhi]; split <;> omega
      have k1 : Ly (n + 1) (2 * r) = 0 := by rw [g3 _ (by omega), px_c_in]
      have k2 : Ly (n + 1) (2 * r + 1) = 0 := by rw [g3 _ (by omega), px_c_in]
      refine ⟨0, 0, by decide, ⟨by rw [Nat.mul_zero, Nat.zero_add, k1]; rfl, by rw [Nat.mul_zero, Nat.zero_add, k2]; rfl⟩, fun h hh => ?_, fun h hh => ?_⟩
      · rw [Nat.zero_testBit]
        exact ⟨fun z => absurd z (by decide), fun z => absurd z.1 q⟩
      · rw [Nat.zero_testBit]
        exact ⟨fun z => absurd z (by decide), fun z => absurd z.1 q⟩
end MAKE
