/-! the class's loops over signs, and its tests -/
section CREAD2
variable {tx : Nat → Nat} {n : Nat} {sh : px_Sh} {R : px_R} {M0 : px_M} {A b0 : Nat}
theorem c_loop (hI : CrI tx n sh R M0 A b0) {rd : px_Sh → px_M → px_R → Option px_M} {o h : Nat} {P : Nat → Res} {op : Nat → Bool} (hop : ∀ k, op k = true → 0 < k ∧ k < 306) (hS : SpC tx n sh R M0 A b0 rd o P) (hG : ∀ p, p ≤ n → GdR n h p (P p)) {body : Int32 × px_M → Option ((Int32 × px_M) ⊕ px_M)}
    (hb1 : ∀ (i : Nat) (C : List Int32) (a x k u o m l : Int32), m ≠ 0 → body (nI i, csM M0 A b0 C a x k u o m l) = some (.inr (csM M0 A b0 C a x k u o m l)))
    (hb2 : ∀ (i p : Nat) (C : List Int32) (a x u o l : Int32), ¬ op (kd tx n p) = true → body (nI i, csM M0 A b0 C a x (nI (kd tx n p)) u o 0 l) = some (.inr (csM M0 A b0 C a x (nI (kd tx n p)) u o 0 l)))
    (hb3 : ∀ (i p : Nat) (C : List Int32) (a x u o l : Int32), op (kd tx n p) = true → i < n → body (nI i, csM M0 A b0 C a x (nI (kd tx n p)) u o 0 l) = bd1 (f_X6_scan (csM M0 A b0 C a x (nI (kd tx n p)) u o 0 l)) fun e => bd1 (rd sh e R) fun e2 => bd1 (f_X7_add sh e2 R A (-(nI (kd tx n p)))) fun e3 => some (.inl (nI (i + 1), e3))) :
    ∀ (f i p : Nat) (C c : List Int32) (v : Vl) (u : Int32), n + 1 ≤ p + f → i ≤ p → p ≤ n → (C ++ c).length ≤ p → okN tx n p u → ∃ M', lpf body (nI i, csM M0 A b0 (C ++ c) (nI p) (nI (nx tx n p)) (nI (kd tx n p)) u (nI o) 0 (-1)) = some M' ∧ OC tx n M0 A b0 C o (pLp tx n P op f p c v) M'
  | 0, i, p, C, c, v, u, hf, hi, hp, hC, hu => absurd hf (by omega)
  | f + 1, i, p, C, c, v, u, hf, hi, hp, hC, hu => by
    have hI' := hI
    obtain ⟨i1, i2, i3, i4, i5, i6, i7, i8⟩ := hI'
    have ht : ∀ i, i < n → tx i < 256 := fun i hi => (i2 i hi).2
    unfold pLp
    by_cases e : op (kd tx n p) = true
    · obtain ⟨k0, k1⟩ := hop _ e
      have hp1 := kd_n ht (show kd tx n p < 318 by omega)
      have hk1 := tk_gt (tx := tx) hp1
      rw [if_pos e]
      have hb := hb3 i p (C ++ c) (nI p) (nI (nx tx n p)) u (nI o) (-1) e (by omega)
      obtain ⟨u1, g1, g2⟩ := c_next hI (C := C ++ c) hp (nI p) (nI (kd tx n p)) u (nI o) 0 (-1)
      rw [g2, bd1_e] at hb
      obtain ⟨M1, g3, g4⟩ := hS (C ++ c) (tk tx n p) u1 (tk_le hp) (by omega) g1
      rw [g3, bd1_e] at hb
      have hG1 := hG (tk tx n p) (tk_le hp)
      revert g4 hG1
      generalize P (tk tx n p) = r1
      intro g4 hG1
      match r1, g4, hG1 with
      | .inr e, g4, hG1 =>
        obtain ⟨C', a', x', k', u', o', hC', rfl⟩ := g4
        rw [c_addI hI hC', bd1_e] at hb
        rw [lpf_go hb, lpf_end (hb1 _ _ _ _ _ _ _ _ _ (nE hG1.1))]
        exact ⟨_, rfl, _, _, _, _, _, _, ad_len hC' _, rfl⟩
      | .inl (q, c2, v2), g4, hG1 =>
        obtain ⟨u2, g5, rfl⟩ := g4
        obtain ⟨G1, G2, -⟩ := hG1
        simp only at G1 G2
        have hl : (C ++ c ++ c2).length < 300 := by
          simp only [List.length_append] at hC ⊢
          omega
        dsimp only at hb
        rw [c_addI hI (by omega), bd1_e, ad_lt hl] at hb
        rw [lpf_go hb]
        have ea : C ++ c ++ c2 ++ [-(nI (kd tx n p))] = C ++ (c ++ c2 ++ [-(nI (kd tx n p))]) := by simp only [List.append_assoc]
        show ∃ M', lpf body (nI (i + 1), csM M0 A b0 (C ++ c ++ c2 ++ [-(nI (kd tx n p))]) (nI q) (nI (nx tx n q)) (nI (kd tx n q)) u2 (nI o) 0 (-1)) = some M' ∧ _
        rw [ea]
        refine c_loop hI hop hS hG hb1 hb2 hb3 f (i + 1) q C _ _ u2 (by omega) (by omega) G2 ?_ g5
        simp only [List.length_append, List.length_singleton] at hC ⊢
        omega
    · rw [if_neg e]
      exact ⟨_, lpf_end (hb2 i p (C ++ c) _ _ u _ _ e), u, hu, rfl⟩
/-- one, and a loop behind it -/
theorem rd_lo (hI : CrI tx n sh R M0 A b0) {rd : px_Sh → px_M → px_R → Option px_M} {o h : Nat} {P : Nat → Res} {op : Nat → Bool} (hop : ∀ k, op k = true → 0 < k ∧ k < 306) (hS : SpC tx n sh R M0 A b0 rd o P) (hG : ∀ p, p ≤ n → GdR n h p (P p)) {body : Int32 × px_M → Option ((Int32 × px_M) ⊕ px_M)}
    (hb1 : ∀ (i : Nat) (C : List Int32) (a x k u o m l : Int32), m ≠ 0 → body (nI i, csM M0 A b0 C a x k u o m l) = some (.inr (csM M0 A b0 C a x k u o m l)))
    (hb2 : ∀ (i p : Nat) (C : List Int32) (a x u o l : Int32), ¬ op (kd tx n p) = true → body (nI i, csM M0 A b0 C a x (nI (kd tx n p)) u o 0 l) = some (.inr (csM M0 A b0 C a x (nI (kd tx n p)) u o 0 l)))
    (hb3 : ∀ (i p : Nat) (C : List Int32) (a x u o l : Int32), op (kd tx n p) = true → i < n → body (nI i, csM M0 A b0 C a x (nI (kd tx n p)) u o 0 l) = bd1 (f_X6_scan (csM M0 A b0 C a x (nI (kd tx n p)) u o 0 l)) fun e => bd1 (rd sh e R) fun e2 => bd1 (f_X7_add sh e2 R A (-(nI (kd tx n p)))) fun e3 => some (.inl (nI (i + 1), e3)))
    {rd2 : px_Sh → px_M → px_R → Option px_M} (h2 : ∀ M, rd2 sh M R = bd1 (rd sh M R) fun e => bd1 (lpf body (0, e)) fun e2 => some e2) : SpC tx n sh R M0 A b0 rd2 o (pLo tx n P op) := by
  intro C p u hp hC hu
  obtain ⟨M1, g1, g2⟩ := hS C p u hp hC hu
  rw [h2, g1, bd1_e]
  have hG1 := hG p hp
  unfold pLo
  revert g2 hG1
  generalize P p = r1
  intro g2 hG1
  match r1, g2, hG1 with
  | .inr e, g2, hG1 =>
    obtain ⟨C', a', x', k', u', o', hC', rfl⟩ := g2
    rw [show (0 : Int32) = nI 0 from rfl, lpf_end (hb1 0 C' a' x' k' u' o' _ _ (nE hG1.1)), bd1_e]
    exact ⟨_, rfl, C', _, _, _, _, _, hC', rfl⟩
  | .inl (q, c, v), g2, hG1 =>
    obtain ⟨u2, g5, rfl⟩ := g2
    obtain ⟨G1, G2, -⟩ := hG1
    simp only at G1 G2
    obtain ⟨M2, g6, g7⟩ := c_loop hI hop hS hG hb1 hb2 hb3 301 0 q C c v u2 (by have := hI.1; omega) (by omega) G2 (by simp only [List.length_append]; omega) g5
    refine ⟨M2, ?_, g7⟩
    show bd1 (lpf body (nI 0, _)) _ = _
    rw [g6, bd1_e]
theorem rd_lo_e {rd rd2 : px_Sh → px_M → px_R → Option px_M} (hE : ErC sh R M0 A b0 rd) {body : Int32 × px_M → Option ((Int32 × px_M) ⊕ px_M)}
    (hb1 : ∀ (i : Nat) (C : List Int32) (a x k u o m l : Int32), m ≠ 0 → body (nI i, csM M0 A b0 C a x k u o m l) = some (.inr (csM M0 A b0 C a x k u o m l)))
    (h2 : ∀ M, rd2 sh M R = bd1 (rd sh M R) fun e => bd1 (lpf body (0, e)) fun e2 => some e2) : ErC sh R M0 A b0 rd2 := by
  intro C a x k u o m l hm
  rw [h2, hE _ _ _ _ _ _ _ _ hm, bd1_e, show (0 : Int32) = nI 0 from rfl, lpf_end (hb1 0 C a x k u o m l hm), bd1_e]
section BODIES
variable {rd : px_Sh → px_M → px_R → Option px_M}
theorem b1_prod (i : Nat) (C : List Int32) (a x k u o m l : Int32) (hm : m ≠ 0) : o_X6_readProduct_6 rd sh (csM M0 A b0 C a x k u o m l) R (nI i) = some (.inr (csM M0 A b0 C a x k u o m l)) := by
  unfold o_X6_readProduct_6
  rw [go_n hm, bd1_e, if_pos (show (0 : Int32) = 0 from rfl), ite_self]
theorem b1_sum (i : Nat) (C : List Int32) (a x k u o m l : Int32) (hm : m ≠ 0) : o_X6_readSum_6 rd sh (csM M0 A b0 C a x k u o m l) R (nI i) = some (.inr (csM M0 A b0 C a x k u o m l)) := by
  unfold o_X6_readSum_6
  rw [go_n hm, bd1_e, if_pos (show (0 : Int32) = 0 from rfl), ite_self]
theorem b1_both (i : Nat) (C : List Int32) (a x k u o m l : Int32) (hm : m ≠ 0) : o_X6_readBoth_6 rd sh (csM M0 A b0 C a x k u o m l) R (nI i) = some (.inr (csM M0 A b0 C a x k u o m l)) := by
  unfold o_X6_readBoth_6
  rw [go_n hm, bd1_e, if_pos (show (0 : Int32) = 0 from rfl), ite_self]
theorem b1_choice (i : Nat) (C : List Int32) (a x k u o m l : Int32) (hm : m ≠ 0) : o_X6_readChoice_6 rd sh (csM M0 A b0 C a x k u o m l) R (nI i) = some (.inr (csM M0 A b0 C a x k u o m l)) := by
  unfold o_X6_readChoice_6
  rw [go_n hm, bd1_e, if_pos (show (0 : Int32) = 0 from rfl), ite_self]
theorem isMul_iff {k : Nat} : isMul k = true ↔ k = 42 ∨ k = 47 := by unfold isMul; simp
theorem isAdd_iff {k : Nat} : isAdd k = true ↔ k = 43 ∨ k = 45 := by unfold isAdd; simp
theorem isAnd_iff {k : Nat} : isAnd k = true ↔ k = 305 := by unfold isAnd; simp
theorem isOr_iff {k : Nat} : isOr k = true ↔ k = 304 := by unfold isOr; simp
theorem b2_prod (hI : CrI tx n sh R M0 A b0) (i p : Nat) (C : List Int32) (a x u o l : Int32) (h : ¬ isMul (kd tx n p) = true) : o_X6_readProduct_6 rd sh (csM M0 A b0 C a x (nI (kd tx n p)) u o 0 l) R (nI i) = some (.inr (csM M0 A b0 C a x (nI (kd tx n p)) u o 0 l)) := by
  rw [isMul_iff] at h
  unfold o_X6_readProduct_6
  rw [go_y, bd1_e, if_neg (show ¬ (1 : Int32) = 0 by decide), cs5, ifi (kdL hI p (c := 42) 42 rfl (by decide)), ifi (kdL hI p (c := 47) 47 rfl (by decide)), if_neg (show ¬ kd tx n p = 42 by omega), if_neg (show ¬ kd tx n p = 47 by omega), ite_self]
theorem b2_sum (hI : CrI tx n sh R M0 A b0) (i p : Nat) (C : List Int32) (a x u o l : Int32) (h : ¬ isAdd (kd tx n p) = true) : o_X6_readSum_6 rd sh (csM M0 A b0 C a x (nI (kd tx n p)) u o 0 l) R (nI i) = some (.inr (csM M0 A b0 C a x (nI (kd tx n p)) u o 0 l)) := by
  rw [isAdd_iff] at h
  unfold o_X6_readSum_6
  rw [go_y, bd1_e, if_neg (show ¬ (1 : Int32) = 0 by decide), cs5, ifi (kdL hI p (c := 43) 43 rfl (by decide)), ifi (kdL hI p (c := 45) 45 rfl (by decide)), if_neg (show ¬ kd tx n p = 43 by omega), if_neg (show ¬ kd tx n p = 45 by omega), ite_self]
theorem b2_both (hI : CrI tx n sh R M0 A b0) (i p : Nat) (C : List Int32) (a x u o l : Int32) (h : ¬ isAnd (kd tx n p) = true) : o_X6_readBoth_6 rd sh (csM M0 A b0 C a x (nI (kd tx n p)) u o 0 l) R (nI i) = some (.inr (csM M0 A b0 C a x (nI (kd tx n p)) u o 0 l)) := by
  rw [isAnd_iff] at h
  unfold o_X6_readBoth_6
  rw [go_y, bd1_e, if_neg (show ¬ (1 : Int32) = 0 by decide), cs5, ifi (kdL hI p (c := 305) 305 rfl (by decide)), if_neg h, ite_self]
theorem b2_choice (hI : CrI tx n sh R M0 A b0) (i p : Nat) (C : List Int32) (a x u o l : Int32) (h : ¬ isOr (kd tx n p) = true) : o_X6_readChoice_6 rd sh (csM M0 A b0 C a x (nI (kd tx n p)) u o 0 l) R (nI i) = some (.inr (csM M0 A b0 C a x (nI (kd tx n p)) u o 0 l)) := by
  rw [isOr_iff] at h
  unfold o_X6_readChoice_6
  rw [go_y, bd1_e, if_neg (show ¬ (1 : Int32) = 0 by decide), cs5, ifi (kdL hI p (c := 304) 304 rfl (by decide)), if_neg h, ite_self]
theorem b3_prod (hI : CrI tx n sh R M0 A b0) (i p : Nat) (C : List Int32) (a x u o l : Int32) (h : isMul (kd tx n p) = true) (hi : i < n) : o_X6_readProduct_6 rd sh (csM M0 A b0 C a x (nI (kd tx n p)) u o 0 l) R (nI i) = bd1 (f_X6_scan (csM M0 A b0 C a x (nI (kd tx n p)) u o 0 l)) fun e => bd1 (o_X6_readUnit rd sh e R) fun e2 => bd1 (f_X7_add sh e2 R A (-(nI (kd tx n p)))) fun e3 => some (.inl (nI (i + 1), e3)) := by
  rw [isMul_iff] at h
  obtain ⟨i1, i2, i3, i4, i5, i6, i7, i8⟩ := id hI
  unfold o_X6_readProduct_6 o_X6_readProduct_39
  rw [cs2, i3, if_neg (nI_ge hi (by omega)), go_y, bd1_e, if_neg (show ¬ (1 : Int32) = 0 by decide), cs5, ifi (kdL hI p (c := 42) 42 rfl (by decide)), ifi (kdL hI p (c := 47) 47 rfl (by decide)), nm_u, nI_1]
  simp only [i8, bd1_e, ok_t (hk_t i5)]
  by_cases e : kd tx n p = 42
  · rw [if_pos e]
  · rw [if_neg e, if_pos (by omega)]
theorem b3_sum (hI : CrI tx n sh R M0 A b0) (i p : Nat) (C : List Int32) (a x u o l : Int32) (h : isAdd (kd tx n p) = true) (hi : i < n) : o_X6_readSum_6 rd sh (csM M0 A b0 C a x (nI (kd tx n p)) u o 0 l) R (nI i) = bd1 (f_X6_scan (csM M0 A b0 C a x (nI (kd tx n p)) u o 0 l)) fun e => bd1 (o_X6_readProduct rd sh e R) fun e2 => bd1 (f_X7_add sh e2 R A (-(nI (kd tx n p)))) fun e3 => some (.inl (nI (i + 1), e3)) := by
  rw [isAdd_iff] at h
  obtain ⟨i1, i2, i3, i4, i5, i6, i7, i8⟩ := id hI
  unfold o_X6_readSum_6 o_X6_readSum_39
  rw [cs2, i3, if_neg (nI_ge hi (by omega)), go_y, bd1_e, if_neg (show ¬ (1 : Int32) = 0 by decide), cs5, ifi (kdL hI p (c := 43) 43 rfl (by decide)), ifi (kdL hI p (c := 45) 45 rfl (by decide)), nm_u, nI_1]
  simp only [i8, bd1_e, ok_t (hk_t i5)]
  by_cases e : kd tx n p = 43
  · rw [if_pos e]
  · rw [if_neg e, if_pos (by omega)]
theorem b3_both (hI : CrI tx n sh R M0 A b0) (i p : Nat) (C : List Int32) (a x u o l : Int32) (h : isAnd (kd tx n p) = true) (hi : i < n) : o_X6_readBoth_6 rd sh (csM M0 A b0 C a x (nI (kd tx n p)) u o 0 l) R (nI i) = bd1 (f_X6_scan (csM M0 A b0 C a x (nI (kd tx n p)) u o 0 l)) fun e => bd1 (rd sh e R) fun e2 => bd1 (f_X7_add sh e2 R A (-(nI (kd tx n p)))) fun e3 => some (.inl (nI (i + 1), e3)) := by
  rw [isAnd_iff] at h
  obtain ⟨i1, i2, i3, i4, i5, i6, i7, i8⟩ := id hI
  unfold o_X6_readBoth_6
  rw [cs2, i3, if_neg (nI_ge hi (by omega)), go_y, bd1_e, if_neg (show ¬ (1 : Int32) = 0 by decide), cs5, if_pos (by rw [h]; rfl), nI_1]
  simp only [i8, bd1_e, ok_t (hk_t i5)]
  rw [h]
  rfl
theorem b3_choice (hI : CrI tx n sh R M0 A b0) (i p : Nat) (C : List Int32) (a x u o l : Int32) (h : isOr (kd tx n p) = true) (hi : i < n) : o_X6_readChoice_6 rd sh (csM M0 A b0 C a x (nI (kd tx n p)) u o 0 l) R (nI i) = bd1 (f_X6_scan (csM M0 A b0 C a x (nI (kd tx n p)) u o 0 l)) fun e => bd1 (o_X6_readBoth rd sh e R) fun e2 => bd1 (f_X7_add sh e2 R A (-(nI (kd tx n p)))) fun e3 => some (.inl (nI (i + 1), e3)) := by
  rw [isOr_iff] at h
  obtain ⟨i1, i2, i3, i4, i5, i6, i7, i8⟩ := id hI
  unfold o_X6_readChoice_6
  rw [cs2, i3, if_neg (nI_ge hi (by omega)), go_y, bd1_e, if_neg (show ¬ (1 : Int32) = 0 by decide), cs5, if_pos (by rw [h]; rfl), nI_1]
  simp only [i8, bd1_e, ok_t (hk_t i5)]
  rw [h]
  rfl
end BODIES
theorem e_unit {rd : px_Sh → px_M → px_R → Option px_M} : ErC sh R M0 A b0 (o_X6_readUnit rd) := by
  intro C a x k u o m l hm
  unfold o_X6_readUnit
  rw [go_n hm, bd1_e, if_pos rfl]
theorem e_prod {rd : px_Sh → px_M → px_R → Option px_M} : ErC sh R M0 A b0 (o_X6_readProduct rd) := rd_lo_e (body := fun a => o_X6_readProduct_6 rd sh a.2 R a.1) e_unit (fun i C a x k u o m l hm => b1_prod i C a x k u o m l hm) (fun M => rfl)
theorem e_sum {rd : px_Sh → px_M → px_R → Option px_M} : ErC sh R M0 A b0 (o_X6_readSum rd) := rd_lo_e (body := fun a => o_X6_readSum_6 rd sh a.2 R a.1) e_prod (fun i C a x k u o m l hm => b1_sum i C a x k u o m l hm) (fun M => rfl)
theorem e_kSum (k : Nat) : ErC sh R M0 A b0 (k_X6_readSum (k + 1)) := e_sum
theorem c_sum (hI : CrI tx n sh R M0 A b0) {rd : px_Sh → px_M → px_R → Option px_M} {o h : Nat} {rc : Option (Nat → Res)} (hrc : ∀ P, rc = some P → (o < 6 ∧ SpC tx n sh R M0 A b0 rd (o + 1) P) ∧ ∀ p, p ≤ n → GdR n h p (P p)) (hno : rc = none → o = 6) (hE : ErC sh R M0 A b0 rd) : SpC tx n sh R M0 A b0 (o_X6_readSum rd) o (pSum tx n rc) := by
  have ht : ∀ i, i < n → tx i < 256 := fun i hi => (hI.2.1 i hi).2
  have hG : ∀ P, rc = some P → ∀ p, p ≤ n → GdR n h p (P p) := fun P e => (hrc P e).2
  have s1 := c_unit hI hrc hno hE
  have s2 : SpC tx n sh R M0 A b0 (o_X6_readProduct rd) o (pProd tx n rc) := rd_lo hI (body := fun a => o_X6_readProduct_6 rd sh a.2 R a.1) op_mul s1 (fun p hp => GdU ht hG hp) (fun i C a x k u o m l hm => b1_prod i C a x k u o m l hm) (fun i p C a x u o l h => b2_prod hI i p C a x u o l h) (fun i p C a x u o l h hi => b3_prod hI i p C a x u o l h hi) (fun M => rfl)
  exact rd_lo hI (body := fun a => o_X6_readSum_6 rd sh a.2 R a.1) op_add s2 (fun p hp => GdP ht hG hp) (fun i C a x k u o m l hm => b1_sum i C a x k u o m l hm) (fun i p C a x u o l h => b2_sum hI i p C a x u o l h) (fun i p C a x u o l h hi => b3_sum hI i p C a x u o l h hi) (fun M => rfl)
theorem c_kSum (hI : CrI tx n sh R M0 A b0) : ∀ (g o k : Nat), g + o = 6 → g + 2 ≤ k → SpC tx n sh R M0 A b0 (k_X6_readSum k) o (pS tx n g)
  | 0, o, k, ho, hk => by
    obtain ⟨k, rfl⟩ : ∃ j, k = j + 2 := ⟨k - 2, by omega⟩
    exact c_sum hI (h := 0) (rc := none) (rd := k_X6_readSum (k + 1)) (fun P e => absurd e (by simp)) (fun _ => by omega) (e_kSum k)
  | g + 1, o, k, ho, hk => by
    obtain ⟨k, rfl⟩ : ∃ j, k = j + 2 := ⟨k - 2, by omega⟩
    have ht : ∀ i, i < n → tx i < 256 := fun i hi => (hI.2.1 i hi).2
    refine c_sum hI (h := 3 * g + 3) (rc := some (pS tx n g)) (rd := k_X6_readSum (k + 1)) (fun P e => ?_) (fun e => absurd e (by simp)) (e_kSum k)
    obtain rfl : pS tx n g = P := Option.some.inj e
    exact ⟨⟨by omega, c_kSum hI g (o + 1) (k + 1) (by omega) (by omega)⟩, fun p hp => GdpS ht g hp⟩
/-! tests -/
theorem e_both {rd : px_Sh → px_M → px_R → Option px_M} (hE : ErC sh R M0 A b0 rd) : ErC sh R M0 A b0 (o_X6_readBoth rd) := rd_lo_e (body := fun a => o_X6_readBoth_6 rd sh a.2 R a.1) hE (fun i C a x k u o m l hm => b1_both i C a x k u o m l hm) (fun M => rfl)
theorem e_choice {rd : px_Sh → px_M → px_R → Option px_M} (hE : ErC sh R M0 A b0 rd) : ErC sh R M0 A b0 (o_X6_readChoice rd) := rd_lo_e (body := fun a => o_X6_readChoice_6 rd sh a.2 R a.1) (e_both hE) (fun i C a x k u o m l hm => b1_choice i C a x k u o m l hm) (fun M => rfl)
theorem e_test {rd : px_Sh → px_M → px_R → Option px_M} : ErC sh R M0 A b0 (o_X6_readTest rd) := by
  intro C a x k u o m l hm
  unfold o_X6_readTest
  rw [go_n hm, bd1_e, if_pos rfl]
theorem c_choice (hI : CrI tx n sh R M0 A b0) {rd : px_Sh → px_M → px_R → Option px_M} {o h : Nat} {P : Nat → Res} (hS : SpC tx n sh R M0 A b0 rd o P) (hG : ∀ p, p ≤ n → GdR n h p (P p)) : SpC tx n sh R M0 A b0 (o_X6_readChoice rd) o (pChoice tx n P) := by
  have ht : ∀ i, i < n → tx i < 256 := fun i hi => (hI.2.1 i hi).2
  have s2 : SpC tx n sh R M0 A b0 (o_X6_readBoth rd) o (pBoth tx n P) := rd_lo hI (body := fun a => o_X6_readBoth_6 rd sh a.2 R a.1) op_and hS hG (fun i C a x k u o m l hm => b1_both i C a x k u o m l hm) (fun i p C a x u o l h => b2_both hI i p C a x u o l h) (fun i p C a x u o l h hi => b3_both hI i p C a x u o l h hi) (fun M => rfl)
  exact rd_lo hI (body := fun a => o_X6_readChoice_6 rd sh a.2 R a.1) op_or s2 (fun p hp => GdLo ht op_and hG hp) (fun i C a x k u o m l hm => b1_choice i C a x k u o m l hm) (fun i p C a x u o l h => b2_choice hI i p C a x u o l h) (fun i p C a x u o l h hi => b3_choice hI i p C a x u o l h hi) (fun M => rfl)
theorem c_cmp_n {C : List Int32} {a x k u o m l : Int32} (h : m ≠ 0) : f_X6_demandComparing (csM M0 A b0 C a x k u o m l) = some (csM M0 A b0 C a x k u o m l) := by
  unfold f_X6_demandComparing f_X6_demandComparing_35 f_X6_demandComparing_46
  rw [go_n h, bd1_e, if_pos rfl, c_refuse_n h, bd1_e, ite_self, ite_self, ite_self]
theorem c_test (hI : CrI tx n sh R M0 A b0) {rd : px_Sh → px_M → px_R → Option px_M} {o h : Nat} {rc : Option (Nat → Res)} {su : Nat → Res} (hrc : ∀ P, rc = some P → (o < 6 ∧ SpC tx n sh R M0 A b0 rd (o + 1) P) ∧ ∀ p, p ≤ n → GdR n (h + 1) p (P p)) (hno : rc = none → o = 6) (hE : ErC sh R M0 A b0 rd) (hsu : SpC tx n sh R M0 A b0 f_X6_readSum o su) (hsG : ∀ p, p ≤ n → GdR n (h + 3) p (su p)) : SpC tx n sh R M0 A b0 (o_X6_readTest rd) o (pTest tx n rc su) := by
  intro C p u hp hC hu
  have hI' := hI
  obtain ⟨i1, i2, i3, i4, i5, i6, i7, i8⟩ := hI'
  have ht : ∀ i, i < n → tx i < 256 := fun i hi => (i2 i hi).2
  have hkl := kd_le ht p
  unfold o_X6_readTest o_X6_readTest_111 pTest
  rw [go_y, bd1_e, if_neg (by decide), cs5, ifi (kdL hI p (c := 306) 306 rfl (by decide)), ifi (kdL hI p (c := 91) 91 rfl (by decide))]
  by_cases c1 : kd tx n p = 306
  · have hp1 := kd_n ht (show kd tx n p < 318 by omega)
    have hk1 := tk_gt (tx := tx) hp1
    rw [if_pos c1, if_pos c1]
    match rc, hrc, hno with
    | none, _, hno =>
      obtain rfl := hno rfl
      rw [c_enter_x, bd1_e, hE _ _ _ _ _ _ _ _ (by decide), bd1_e, nm_u, nm_u, csu7, i8, bd1_e, ok_t (hk_t i5), c_addI hI (by omega), bd1_e]
      exact ⟨_, rfl, _, _, _, _, _, _, ad_len (by omega) _, rfl⟩
    | some P, hrc, _ =>
      obtain ⟨⟨ho, hS⟩, hG⟩ := hrc P rfl
      dsimp only
      obtain ⟨u1, g1, g2⟩ := c_enter_y hI (C := C) hp ho (nI p) (nI (kd tx n p)) u
      rw [g2, bd1_e]
      obtain ⟨M1, g3, g4⟩ := hS C (tk tx n p) u1 (tk_le hp) (by omega) g1
      rw [g3, bd1_e]
      have hG1 := hG (tk tx n p) (tk_le hp)
      revert g4 hG1
      generalize P (tk tx n p) = r1
      intro g4 hG1
      match r1, g4, hG1 with
      | .inr e, g4, hG1 =>
        obtain ⟨C', a', x', k', u', o', hC', rfl⟩ := g4
        rw [nm_u, nm_u, csu7, i8, bd1_e, ok_t (hk_t i5), c_addI hI hC', bd1_e]
        exact ⟨_, rfl, _, _, _, _, _, _, ad_len hC' _, rfl⟩
      | .inl (q, c, v), g4, hG1 =>
        obtain ⟨u2, g5, rfl⟩ := g4
        obtain ⟨G1, G2, -⟩ := hG1
        simp only at G1 G2
        have hl : (C ++ c).length < 300 := by
          simp only [List.length_append]
          omega
        dsimp only
        rw [nm_u, nm_u, csu7, cs7, nI_pred, i8, bd1_e, ok_t (hk_t i5), c_addI hI (by omega), bd1_e, ad_lt hl]
        refine ⟨_, rfl, u2, g5, ?_⟩
        show _ = csM M0 A b0 (C ++ (c ++ [-(nI 306)])) _ _ _ _ _ _ _
        rw [List.append_assoc]
        rfl
  · rw [if_neg c1, if_neg c1]
    by_cases c2 : kd tx n p = 91
    · have hp1 := kd_n ht (show kd tx n p < 318 by omega)
      have hk1 := tk_gt (tx := tx) hp1
      rw [if_pos c2, if_pos c2]
      match rc, hrc, hno with
      | none, _, hno =>
        obtain rfl := hno rfl
        rw [c_enter_x, bd1_e, e_choice hE _ _ _ _ _ _ _ _ (by decide), bd1_e, c_demand_n (by decide), bd1_e, nm_u, nm_u, csu7]
        exact ⟨_, rfl, C, _, _, _, _, _, by omega, rfl⟩
      | some P, hrc, _ =>
        obtain ⟨⟨ho, hS⟩, hG⟩ := hrc P rfl
        dsimp only
        obtain ⟨u1, g1, g2⟩ := c_enter_y hI (C := C) hp ho (nI p) (nI (kd tx n p)) u
        rw [g2, bd1_e]
        obtain ⟨M1, g3, g4⟩ := c_choice hI hS hG C (tk tx n p) u1 (tk_le hp) (by omega) g1
        rw [g3, bd1_e]
        have hG1 : GdR n (h + 3) (tk tx n p) (pChoice tx n P (tk tx n p)) := GdLo ht op_or (h := h + 2) (fun p hp => GdLo ht op_and hG hp) (tk_le hp)
        revert g4 hG1
        generalize pChoice tx n P (tk tx n p) = r1
        intro g4 hG1
        match r1, g4, hG1 with
        | .inr e, g4, hG1 =>
          obtain ⟨C', a', x', k', u', o', hC', rfl⟩ := g4
          rw [c_demand_n (nE hG1.1), bd1_e, nm_u, nm_u, csu7]
          exact ⟨_, rfl, C', _, _, _, _, _, hC', rfl⟩
        | .inl (q, c, v), g4, hG1 =>
          obtain ⟨u2, g5, rfl⟩ := g4
          obtain ⟨G1, G2, -⟩ := hG1
          simp only at G1 G2
          show ∃ M', _ ∧ OC tx n M0 A b0 C o (if kd tx n q = 93 then _ else _) M'
          dsimp only
          by_cases c5 : kd tx n q = 93
          · obtain ⟨u3, g6, g7⟩ := c_demand_y hI (C := C ++ c) (w := 93) G2 (by decide) c5 u2 (nI (o + 1))
            rw [if_pos c5, show (93 : Int32) = nI 93 from rfl, g7, bd1_e, nm_u, nm_u, csu7, cs7, nI_pred]
            exact ⟨_, rfl, u3, g6, rfl⟩
          · rw [if_neg c5, show (93 : Int32) = nI 93 from rfl, c_demand_x hI (by decide) c5, bd1_e, nm_u, nm_u, csu7]
            exact ⟨_, rfl, C ++ c, _, _, _, _, _, by simp only [List.length_append]; omega, rfl⟩
    · rw [if_neg c2, if_neg c2]
      obtain ⟨M1, g3, g4⟩ := hsu C p u hp hC hu
      rw [g3, bd1_e]
      have hG1 := hsG p hp
      revert g4 hG1
      generalize su p = r1
      intro g4 hG1
      have hEs : ErC sh R M0 A b0 f_X6_readSum := e_kSum 8
      match r1, g4, hG1 with
      | .inr e, g4, hG1 =>
        obtain ⟨C', a', x', k', u', o', hC', rfl⟩ := g4
        have hne := nE hG1.1
        rw [nm_u, c_cmp_n hne, bd1_e, hEs _ _ _ _ _ _ _ _ hne, bd1_e, i8, bd1_e, ok_t (hk_t i5), c_addI hI hC', bd1_e]
        exact ⟨_, rfl, _, _, _, _, _, _, ad_len hC' _, rfl⟩
      | .inl (q, c, v), g4, hG1 =>
        obtain ⟨u2, g5, rfl⟩ := g4
        obtain ⟨G1, G2, -⟩ := hG1
        simp only at G1 G2
        have hCc : (C ++ c).length ≤ q := by
          simp only [List.length_append]
          omega
        show ∃ M', _ ∧ OC tx n M0 A b0 C o (if kd tx n q = 60 ∨ kd tx n q = 62 ∨ kd tx n q = 61 then _ else _) M'
        dsimp only
        rw [nm_u, cs5]
        have cmp : f_X6_demandComparing (csM M0 A b0 (C ++ c) (nI q) (nI (nx tx n q)) (nI (kd tx n q)) u2 (nI o) 0 (-1)) = if kd tx n q = 60 ∨ kd tx n q = 62 ∨ kd tx n q = 61 then f_X6_scan (csM M0 A b0 (C ++ c) (nI q) (nI (nx tx n q)) (nI (kd tx n q)) u2 (nI o) 0 (-1)) else some (csM M0 A b0 (C ++ c) (nI q) (nI (nx tx n q)) (nI (kd tx n q)) u2 (nI o) 1 (nI q)) := by
          unfold f_X6_demandComparing f_X6_demandComparing_35 f_X6_demandComparing_46
          rw [go_y, bd1_e, if_neg (show ¬ (1 : Int32) = 0 by decide), c_refuse, bd1_e, cs5, ifi (kdL hI q (c := 60) 60 rfl (by decide)), ifi (kdL hI q (c := 62) 62 rfl (by decide)), ifi (kdL hI q (c := 61) 61 rfl (by decide))]
          have hs : ∀ Z : Option px_M, (bd1 Z fun e => some e) = Z := by
            intro Z
            cases Z <;> rfl
          rw [hs]
          by_cases k1 : kd tx n q = 60
          · rw [if_pos k1, if_pos (Or.inl k1)]
          · rw [if_neg k1]
            by_cases k2 : kd tx n q = 62
            · rw [if_pos k2, if_pos (Or.inr (Or.inl k2))]
            · rw [if_neg k2]
              by_cases k3 : kd tx n q = 61
              · rw [if_pos k3, if_pos (Or.inr (Or.inr k3))]
              · rw [if_neg k3, if_neg (by omega)]
        rw [cmp]
        by_cases c4 : kd tx n q = 60 ∨ kd tx n q = 62 ∨ kd tx n q = 61
        · have hq1 := kd_n ht (show kd tx n q < 318 by omega)
          have hk1 := tk_gt (tx := tx) hq1
          rw [if_pos c4, if_pos c4]
          obtain ⟨u3, g6, g7⟩ := c_next hI (C := C ++ c) G2 (nI q) (nI (kd tx n q)) u2 (nI o) 0 (-1)
          rw [g7, bd1_e]
          obtain ⟨M2, g8, g9⟩ := hsu (C ++ c) (tk tx n q) u3 (tk_le G2) (by omega) g6
          rw [g8, bd1_e]
          have hG2 := hsG (tk tx n q) (tk_le G2)
          revert g9 hG2
          generalize su (tk tx n q) = r2
          intro g9 hG2
          match r2, g9, hG2 with
          | .inr e, g9, hG2 =>
            obtain ⟨C', a', x', k', u', o', hC', rfl⟩ := g9
            rw [i8, bd1_e, ok_t (hk_t i5), c_addI hI hC', bd1_e]
            exact ⟨_, rfl, _, _, _, _, _, _, ad_len hC' _, rfl⟩
          | .inl (q2, c2, v2), g9, hG2 =>
            obtain ⟨u5, g12, rfl⟩ := g9
            obtain ⟨G3, G4, -⟩ := hG2
            simp only at G3 G4
            have hlt : (C ++ c ++ c2).length < 300 := by
              simp only [List.length_append] at hCc ⊢
              omega
            dsimp only
            rw [i8, bd1_e, ok_t (hk_t i5), c_addI hI (by omega), bd1_e, ad_lt hlt]
            refine ⟨_, rfl, u5, g12, ?_⟩
            simp only [List.append_assoc]
        · rw [if_neg c4, if_neg c4, bd1_e, hEs _ _ _ _ _ _ _ _ (by decide), bd1_e, i8, bd1_e, ok_t (hk_t i5), c_addI hI (by omega), bd1_e]
          exact ⟨_, rfl, _, _, _, _, _, _, ad_len (by omega) _, rfl⟩
theorem c_kTest (hI : CrI tx n sh R M0 A b0) : ∀ (g o k : Nat), g + o = 6 → g + 2 ≤ k → SpC tx n sh R M0 A b0 (k_X6_readTest k) o (pT tx n g)
  | 0, o, k, ho, hk => by
    obtain ⟨k, rfl⟩ : ∃ j, k = j + 2 := ⟨k - 2, by omega⟩
    have ht : ∀ i, i < n → tx i < 256 := fun i hi => (hI.2.1 i hi).2
    exact c_test hI (h := 0) (rc := none) (rd := k_X6_readTest (k + 1)) (fun P e => absurd e (by simp)) (fun _ => by omega) e_test (c_kSum hI 0 o 9 (by omega) (by omega)) (fun p hp => GdpS ht 0 hp)
  | g + 1, o, k, ho, hk => by
    obtain ⟨k, rfl⟩ : ∃ j, k = j + 2 := ⟨k - 2, by omega⟩
    have ht : ∀ i, i < n → tx i < 256 := fun i hi => (hI.2.1 i hi).2
    refine c_test hI (h := 3 * (g + 1)) (rc := some (pT tx n g)) (rd := k_X6_readTest (k + 1)) (fun P e => ?_) (fun e => absurd e (by simp)) e_test (c_kSum hI (g + 1) o 9 (by omega) (by omega)) (fun p hp => GdpS ht (g + 1) hp)
    obtain rfl : pT tx n g = P := Option.some.inj e
    exact ⟨⟨by omega, c_kTest hI g (o + 1) (k + 1) (by omega) (by omega)⟩, fun p hp => GdpT ht g hp⟩
theorem c_top (hI : CrI tx n sh R M0 A b0) : SpC tx n sh R M0 A b0 f_X6_readChoice 0 (pChoice tx n (pT tx n 6)) := by
  have ht : ∀ i, i < n → tx i < 256 := fun i hi => (hI.2.1 i hi).2
  exact c_choice hI (c_kTest hI 6 0 9 (by omega) (by omega)) (fun p hp => GdpT ht 6 hp)
theorem e_top : ErC sh R M0 A b0 f_X6_readChoice := e_choice e_test
end CREAD2
