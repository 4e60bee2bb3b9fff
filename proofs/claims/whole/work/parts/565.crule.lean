/-! whole texts of rules: the class -/
abbrev Rul := Nat × List Int32 × Vl
def cdsL (L : List Rul) : List Int32 := (L.map fun r => r.2.1).flatten
def enL (L : List Rul) (i : Nat) : Nat := (cdsL (L.take (i + 1))).length
def stL (L : List Rul) (i : Nat) : Nat := (L.map fun r => r.1).getD i 0
section PRULES
variable (tx : Nat → Nat) (n : Nat)
noncomputable def pRule (p k : Nat) : (Nat × Rul) ⊕ (Nat × Nat) :=
  if 300 ≤ kd tx n p ∧ kd tx n p ≤ 302 then (if k = 16 then .inr (3, p) else if kd tx n (tk tx n p) = 303 then (match pChoice tx n (pT tx n 6) (tk tx n (tk tx n p)) with
    | .inr e => .inr e
    | .inl t => if kd tx n t.1 = 59 then .inl (tk tx n t.1, (kd tx n p - 300, t.2.1, t.2.2)) else .inr (1, t.1)) else .inr (1, tk tx n p))
  else .inr (1, p)
noncomputable def pRules : Nat → Nat → Nat → List Rul ⊕ (Nat × Nat)
  | 0, _, _ => .inl []
  | f + 1, p, k => if kd tx n p = 318 then .inl [] else match pRule tx n p k with
    | .inr e => .inr e
    | .inl t => match pRules f t.1 (k + 1) with
      | .inr e => .inr e
      | .inl L => .inl (t.2 :: L)
end PRULES
theorem cds_app (L : List Rul) (r : Rul) : cdsL (L ++ [r]) = cdsL L ++ r.2.1 := by unfold cdsL; simp
theorem en_app (L : List Rul) (r : Rul) {i : Nat} (h : i < L.length) : enL (L ++ [r]) i = enL L i := by
  unfold enL
  rw [List.take_append_of_le_length (by omega)]
theorem en_last (L : List Rul) (r : Rul) : enL (L ++ [r]) L.length = (cdsL (L ++ [r])).length := by
  unfold enL
  rw [List.take_of_length_le (by simp)]
theorem st_app (L : List Rul) (r : Rul) {i : Nat} (h : i < L.length) : stL (L ++ [r]) i = stL L i := by
  unfold stL
  rw [List.map_append]
  simp [List.getElem?_append_left (show i < (L.map fun r => r.1).length by simpa using h)]
theorem st_last (L : List Rul) (r : Rul) : stL (L ++ [r]) L.length = r.1 := by
  unfold stL
  simp
section CRULE
variable {tx : Nat → Nat} {n : Nat} {sh : px_Sh} {R : px_R} {M0 : px_M} {A b0 b1 b2 : Nat}
/-- what is written of rules beside their code -/
def RBf (M0 : px_M) (A b1 b2 : Nat) (M : px_M) : Prop := ∀ c j, ¬ (c = A ∧ j = 5) → c ≠ b1 → c ≠ b2 → M c j = M0 c j
def RB (M0 : px_M) (A b1 b2 : Nat) (L : List Rul) (M : px_M) : Prop := M A 5 = nI L.length ∧ (∀ j, j < L.length → M b1 j = nI (enL L j) ∧ M b2 j = nI (stL L j)) ∧ RBf M0 A b1 b2 M
/-- what the class needs of the rules' object -/
def CuI (sh : px_Sh) (R : px_R) (A b0 b1 b2 : Nat) : Prop := R A 1 = some b1 ∧ R A 2 = some b2 ∧ sh b1 = some (13, 16) ∧ sh b2 = some (13, 16) ∧ (b1 ≠ 20 ∧ b2 ≠ 20 ∧ b1 ≠ 21 ∧ b2 ≠ 21) ∧ b1 ≠ b0 ∧ b2 ≠ b0 ∧ b1 ≠ A ∧ b2 ≠ A ∧ b1 ≠ b2
theorem CrI.rb (hI : CrI tx n sh R M0 A b0) (hU : CuI sh R A b0 b1 b2) {M : px_M} (hM : RBf M0 A b1 b2 M) : CrI tx n sh R M A b0 := by
  obtain ⟨i1, i2, i3, i4, i5⟩ := hI
  obtain ⟨-, -, -, -, ⟨u1, u2, u3, u4⟩, -⟩ := hU
  exact ⟨i1, fun i hi => by rw [hM 21 i (fun z => i4.2.2.1 z.1.symm) u3.symm u4.symm]; exact i2 i hi, by rw [hM 20 2 (fun z => i4.1 z.1.symm) u1.symm u2.symm]; exact i3, i4, i5⟩
theorem csx {C : List Int32} {a x k u o m l : Int32} {c0 j0 : Nat} (h1 : c0 ≠ 20) (h2 : c0 ≠ b0) (h3 : ¬ (c0 = A ∧ j0 = 4)) (v : Int32) : px_u (csM M0 A b0 C a x k u o m l) c0 j0 v = csM (px_u M0 c0 j0 v) A b0 C a x k u o m l := by
  funext c j
  by_cases e : c = c0 ∧ j = j0
  · obtain ⟨rfl, rfl⟩ := e
    rw [px_u_in]
    unfold csM
    rw [if_neg h1, if_neg h2]
    by_cases q : c = A
    · subst q
      rw [if_pos rfl, if_neg (fun z => h3 ⟨rfl, z⟩), px_u_in]
    · rw [if_neg q, px_u_in]
  · rw [pu_n e]
    unfold csM
    by_cases q1 : c = 20
    · subst q1
      rw [if_pos rfl, if_pos rfl, pu_n (fun z => h1 z.1.symm)]
    · rw [if_neg q1, if_neg q1]
      by_cases q2 : c = b0
      · subst q2
        rw [if_pos rfl, if_pos rfl, pu_n (fun z => h2 z.1.symm)]
      · rw [if_neg q2, if_neg q2]
        by_cases q3 : c = A
        · subst q3
          rw [if_pos rfl, if_pos rfl, pu_n e]
        · rw [if_neg q3, if_neg q3, pu_n e]
theorem c_endRule (hI : CrI tx n sh R M0 A b0) (hU : CuI sh R A b0 b1 b2) {Mb : px_M} {C : List Int32} {a x k u o m l : Int32} {r : Nat} (hr : r ≤ 16) (h5 : Mb A 5 = nI r) (st : Int32) : ∃ Mb', f_X7_endRule sh (csM Mb A b0 C a x k u o m l) R A st = some (csM Mb' A b0 C a x k u o m l) ∧ (∀ c j, ¬ (c = A ∧ j = 5) → c ≠ b1 → c ≠ b2 → Mb' c j = Mb c j) ∧ (r < 16 → Mb' A 5 = nI (r + 1) ∧ Mb' b1 r = nI C.length ∧ Mb' b2 r = st ∧ ∀ j, j ≠ r → Mb' b1 j = Mb b1 j ∧ Mb' b2 j = Mb b2 j) := by
  obtain ⟨i1, i2, i3, i4, i5, i6, i7, i8⟩ := hI
  obtain ⟨u1, u2, u3, u4, ⟨u5, u6, -, -⟩, u7, u8, u9, u10, u11⟩ := hU
  have e5 : csM Mb A b0 C a x k u o m l A 5 = nI r := by
    unfold csM
    rw [if_neg i4.1, if_neg i4.2.2.2.2, if_pos rfl, if_neg (by decide)]
    exact h5
  have e4 : csM Mb A b0 C a x k u o m l A 4 = nI C.length := by
    unfold csM
    rw [if_neg i4.1, if_neg i4.2.2.2.2, if_pos rfl, if_pos rfl]
  unfold f_X7_endRule f_X7_endRule_42
  rw [ok_t (hk_t i5), e5, ifi (leL' (a := 16) (b := r) 16 rfl (by decide) (by omega))]
  by_cases e : 16 ≤ r
  · rw [if_pos e]
    exact ⟨Mb, rfl, fun _ _ _ _ _ => rfl, fun h => absurd h (by omega)⟩
  · refine ⟨px_u (px_u (px_u Mb b1 r (nI C.length)) b2 r st) A 5 (nI (r + 1)), ?_, fun c j q1 q2 q3 => ?_, fun _ => ⟨px_u_in _ _ _ _, ?_, ?_, fun j hj => ⟨?_, ?_⟩⟩⟩
    · have e5b : csM (px_u Mb b1 r (nI C.length)) A b0 C a x k u o m l A 5 = nI r := by
        rw [← csx u5 u7 (fun z => u9 z.1), pu_n (fun z => u9 z.1.symm)]; exact e5
      have e5c : csM (px_u (px_u Mb b1 r (nI C.length)) b2 r st) A b0 C a x k u o m l A 5 = nI r := by
        rw [← csx u6 u8 (fun z => u10 z.1), pu_n (fun z => u10 z.1.symm)]; exact e5b
      rw [if_neg e, ok_t (hk_t i5), u1, bd1_e, ok_t (hk_t i5), ok_t (hk_t i5), nm_u, e4, ok_t (xk_t u3 (ix_k (show r < 16 by omega) (by decide))), nI_clamp (show r < 2 ^ 31 by omega), nm_u, csx u5 u7 (fun z => u9 z.1), ok_t (hk_t i5), u2, bd1_e, ok_t (hk_t i5), e5b, ok_t (xk_t u4 (ix_k (show r < 16 by omega) (by decide))), nI_clamp (show r < 2 ^ 31 by omega), nm_u, csx u6 u8 (fun z => u10 z.1), ok_t (hk_t i5), nm_u, e5c, nI_1, ok_t (hk_t i5), nm_u, csx i4.1 i4.2.2.2.2 (fun z => absurd z.2 (by decide))]
    · rw [pu_n q1, pu_n (fun z => q3 z.1), pu_n (fun z => q2 z.1)]
    · rw [pu_n (fun z => u9 z.1), pu_n (fun z => u11 z.1), px_u_in]
    · rw [pu_n (fun z => u10 z.1), px_u_in]
    · rw [pu_n (fun z => u9 z.1), pu_n (fun z => u11 z.1), pu_n (fun z => hj z.2)]
    · rw [pu_n (fun z => u10 z.1), pu_n (fun z => hj z.2), pu_n (fun z => u11 z.1.symm)]
/-- one rule -/
theorem c_rule (hI : CrI tx n sh R M0 A b0) (hU : CuI sh R A b0 b1 b2) {Mb : px_M} {L : List Rul} (hB : RB M0 A b1 b2 L Mb) (hL : L.length ≤ 16) {p : Nat} {u : Int32} (hp : p ≤ n) (hC : (cdsL L).length ≤ p) (hu : okN tx n p u) :
    ∃ M', f_X6_readRule sh (csM Mb A b0 (cdsL L) (nI p) (nI (nx tx n p)) (nI (kd tx n p)) u (nI 0) 0 (-1)) R = some M' ∧ match pRule tx n p L.length with
      | .inl t => (cdsL (L ++ [t.2])).length ≤ t.1 ∧ p < t.1 ∧ t.1 ≤ n ∧ t.2.1 < 3 ∧ L.length < 16 ∧ (∀ vals S, S.length + 24 ≤ 32 → rnC vals t.2.2.1 S = S ++ [t.2.2.2 vals]) ∧ (∀ vals, t.2.2.2 vals = 0 ∨ t.2.2.2 vals = 1) ∧ ∃ u' Mb', okN tx n t.1 u' ∧ RB M0 A b1 b2 (L ++ [t.2]) Mb' ∧ M' = csM Mb' A b0 (cdsL (L ++ [t.2])) (nI t.1) (nI (nx tx n t.1)) (nI (kd tx n t.1)) u' (nI 0) 0 (-1)
      | .inr e => (e.1 = 1 ∨ e.1 = 2 ∨ e.1 = 3) ∧ e.2 ≤ n ∧ ∃ Mb' C a x k u o, RBf M0 A b1 b2 Mb' ∧ M' = csM Mb' A b0 C a x k u o (nI e.1) (nI e.2) := by
  have hIb := hI.rb hU hB.2.2
  obtain ⟨i1, i2, i3, i4, i5, i6, i7, i8⟩ := id hIb
  have ht : ∀ i, i < n → tx i < 256 := fun i hi => (i2 i hi).2
  have hkl := kd_le ht p
  have e5 : ∀ (C : List Int32) (a x k u o m l : Int32), csM Mb A b0 C a x k u o m l A 5 = nI L.length := by
    intro C a x k u o m l
    unfold csM
    rw [if_neg i4.1, if_neg i4.2.2.2.2, if_pos rfl, if_neg (by decide)]
    exact hB.1
  unfold f_X6_readRule f_X6_readRule_23 f_X6_readRule_80 pRule
  rw [nm_u, cs5, c_refuse, bd1_e]
  have hv8 : (nI (kd tx n p) - 300 < 0) ↔ ¬ 300 ≤ kd tx n p := by
    by_cases q : 300 ≤ kd tx n p
    · rw [show (300 : Int32) = nI 300 from rfl, pk_sub q]
      exact ⟨fun z => absurd z (nI_pos (by omega)), fun z => absurd q z⟩
    · exact ⟨fun _ => q, fun _ => (by decide +kernel : ∀ k, k < 300 → nI k - 300 < 0) _ (by omega)⟩
  rw [ifi hv8, ifi (leL (a := kd tx n p) (b := 302) 302 rfl (by omega) (by decide))]
  by_cases c1 : 300 ≤ kd tx n p ∧ kd tx n p ≤ 302
  · have hp1 := kd_n ht (show kd tx n p < 318 by omega)
    have hk1 := tk_gt (tx := tx) hp1
    have hk2 := tk_le (tx := tx) hp
    rw [if_neg (by omega), if_pos c1.2, if_pos c1, i8, bd1_e, ok_t (hk_t i5), e5, ifi (eqL (a := L.length) (b := 16) 16 rfl (by omega) (by decide))]
    by_cases c2 : L.length = 16
    · rw [if_pos c2, if_pos c2, c_refuse, bd1_e]
      exact ⟨_, rfl, Or.inr (Or.inr rfl), hp, Mb, _, _, _, _, _, _, hB.2.2, rfl⟩
    · rw [if_neg c2, if_neg c2]
      obtain ⟨u1, g1, g2⟩ := c_next hIb (C := cdsL L) hp (nI p) (nI (kd tx n p)) u (nI 0) 0 (-1)
      rw [g2, bd1_e]
      have fin_e : ∀ (C : List Int32) (a x k u o : Int32) (e : Nat × Nat), C.length ≤ 300 → (e.1 = 1 ∨ e.1 = 2 ∨ e.1 = 3) → e.2 ≤ n → ∃ M', (bd1 (f_X6_readChoice sh (csM Mb A b0 C a x k u o (nI e.1) (nI e.2)) R) fun e_63 => bd1 (f_X6_demand e_63 59) fun e_69 => bd1 (some A) fun b_73 => ok (hk sh b_73 7) (bd1 (f_X7_endRule sh e_69 R b_73 (nI (kd tx n p) - 300)) fun e_77 => some e_77)) = some M' ∧ ((e.1 = 1 ∨ e.1 = 2 ∨ e.1 = 3) ∧ e.2 ≤ n ∧ ∃ Mb' C a x k u o, RBf M0 A b1 b2 Mb' ∧ M' = csM Mb' A b0 C a x k u o (nI e.1) (nI e.2)) := by
        intro C a x k u o e hCl he heq
        have hne := nE he
        obtain ⟨Mb', q1, q2, -⟩ := c_endRule hI hU (C := C) (a := a) (x := x) (k := k) (u := u) (o := o) (m := nI e.1) (l := nI e.2) hL hB.1 (nI (kd tx n p) - 300)
        rw [e_top _ _ _ _ _ _ _ _ hne, bd1_e, c_demand_n hne, bd1_e, bd1_e, ok_t (hk_t i5), q1, bd1_e]
        exact ⟨_, rfl, he, heq, Mb', _, _, _, _, _, _, fun c j r1 r2 r3 => (q2 c j r1 r2 r3).trans (hB.2.2 c j r1 r2 r3), rfl⟩
      by_cases c3 : kd tx n (tk tx n p) = 303
      · obtain ⟨u2, g3, g4⟩ := c_demand_y hIb (C := cdsL L) (w := 303) hk2 (by decide) c3 u1 (nI 0)
        have hk3 := tk_ge (tx := tx) (n := n) (tk tx n p)
        have hk4 := tk_le (tx := tx) hk2
        rw [if_pos c3, show (303 : Int32) = nI 303 from rfl, g4, bd1_e]
        obtain ⟨M1, g5, g6⟩ := c_top hIb (cdsL L) (tk tx n (tk tx n p)) u2 hk4 (by omega) g3
        rw [g5, bd1_e]
        have hG := GdpC ht 6 hk4
        have hBv := BvC (tx := tx) (n := n) 6 (tk tx n (tk tx n p))
        revert g6 hG hBv
        generalize pChoice tx n (pT tx n 6) (tk tx n (tk tx n p)) = r1
        intro g6 hG hBv
        match r1, g6, hG, hBv with
        | .inr e, g6, hG, _ =>
          obtain ⟨C', a', x', k', u', o', hC', rfl⟩ := g6
          have hne := nE hG.1
          obtain ⟨Mb', q1, q2, -⟩ := c_endRule hI hU (C := C') (a := a') (x := x') (k := k') (u := u') (o := o') (m := nI e.1) (l := nI e.2) hL hB.1 (nI (kd tx n p) - 300)
          rw [c_demand_n hne, bd1_e, bd1_e, ok_t (hk_t i5), q1, bd1_e]
          exact ⟨_, rfl, hG.1, hG.2, Mb', _, _, _, _, _, _, fun c j r1 r2 r3 => (q2 c j r1 r2 r3).trans (hB.2.2 c j r1 r2 r3), rfl⟩
        | .inl (q, c, v), g6, hG, hBv =>
          obtain ⟨u3, g7, rfl⟩ := g6
          obtain ⟨G1, G2, G3⟩ := hG
          dsimp only at G1 G2 G3 ⊢
          by_cases c4 : kd tx n q = 59
          · have hq1 := kd_n ht (show kd tx n q < 318 by omega)
            have hk5 := tk_gt (tx := tx) hq1
            obtain ⟨u4, g8, g9⟩ := c_demand_y hIb (C := cdsL L ++ c) (w := 59) G2 (by decide) c4 u3 (nI 0)
            obtain ⟨Mb', q1, q2, q3⟩ := c_endRule hI hU (C := cdsL L ++ c) (a := nI (tk tx n q)) (x := nI (nx tx n (tk tx n q))) (k := nI (kd tx n (tk tx n q))) (u := u4) (o := nI 0) (m := 0) (l := -1) hL hB.1 (nI (kd tx n p) - 300)
            rw [if_pos c4, show (59 : Int32) = nI 59 from rfl, g9, bd1_e, bd1_e, ok_t (hk_t i5), q1, bd1_e]
            dsimp only
            obtain ⟨z1, z2, z3, z4⟩ := q3 (by omega)
            refine ⟨_, rfl, ?_, by omega, tk_le G2, by omega, by omega, G3, hBv, u4, Mb', g8, ⟨?_, fun j hj => ?_, fun c j r1 r2 r3 => (q2 c j r1 r2 r3).trans (hB.2.2 c j r1 r2 r3)⟩, ?_⟩
            · rw [cds_app, List.length_append]; dsimp only; omega
            · rw [z1, List.length_append]; rfl
            · rw [List.length_append, List.length_singleton] at hj
              by_cases e : j = L.length
              · subst e
                rw [z2, z3, en_last, st_last, cds_app]
                refine ⟨rfl, ?_⟩
                rw [show (300 : Int32) = nI 300 from rfl, pk_sub c1.1]
              · obtain ⟨y1, y2⟩ := z4 j e
                rw [y1, y2, en_app L _ (by omega), st_app L _ (by omega)]
                exact hB.2.1 j (by omega)
            · rw [cds_app]
          · have := fin_e
            obtain ⟨Mb', q1, q2, -⟩ := c_endRule hI hU (C := cdsL L ++ c) (a := nI q) (x := nI (nx tx n q)) (k := nI (kd tx n q)) (u := u3) (o := nI 0) (m := 1) (l := nI q) hL hB.1 (nI (kd tx n p) - 300)
            rw [if_neg c4, show (59 : Int32) = nI 59 from rfl, c_demand_x hIb (by decide) c4, bd1_e, bd1_e, ok_t (hk_t i5), q1, bd1_e]
            exact ⟨_, rfl, Or.inl rfl, G2, Mb', _, _, _, _, _, _, fun c j r1 r2 r3 => (q2 c j r1 r2 r3).trans (hB.2.2 c j r1 r2 r3), rfl⟩
      · rw [if_neg c3, show (303 : Int32) = nI 303 from rfl, c_demand_x hIb (by decide) c3, bd1_e]
        exact fin_e _ _ _ _ _ _ (1, tk tx n p) (by omega) (Or.inl rfl) hk2
  · rw [if_neg c1]
    have hm : ∀ (Z Y : Option px_M), (if ¬ 300 ≤ kd tx n p then Z else if kd tx n p ≤ 302 then Y else Z) = Z := by
      intro Z Y
      by_cases q : ¬ 300 ≤ kd tx n p
      · rw [if_pos q]
      · rw [if_neg q, if_neg (by omega)]
    rw [hm]
    exact ⟨_, rfl, Or.inl rfl, hp, Mb, _, _, _, _, _, _, hB.2.2, rfl⟩
/-- what lists of rules are like -/
def RuG (n : Nat) (L : List Rul) : Prop := ∀ r, r ∈ L → r.1 < 3 ∧ (∀ vals S, S.length + 24 ≤ 32 → rnC vals r.2.1 S = S ++ [r.2.2 vals]) ∧ ∀ vals, r.2.2 vals = 0 ∨ r.2.2 vals = 1
theorem c_rules (hI : CrI tx n sh R M0 A b0) (hU : CuI sh R A b0 b1 b2) : ∀ (f : Nat) (L : List Rul) (Mb : px_M) (p : Nat) (u : Int32), f + L.length = 17 → RB M0 A b1 b2 L Mb → L.length ≤ 16 → p ≤ n → (cdsL L).length ≤ p → okN tx n p u →
    ∃ M', lpf (fun a : Int32 × px_M => f_X6_readTape_50 sh a.2 R a.1) (nI L.length, csM Mb A b0 (cdsL L) (nI p) (nI (nx tx n p)) (nI (kd tx n p)) u (nI 0) 0 (-1)) = some M' ∧ match pRules tx n f p L.length with
      | .inl L' => (L ++ L').length ≤ 16 ∧ (cdsL (L ++ L')).length ≤ n ∧ RuG n L' ∧ ∃ a x k u Mb', RB M0 A b1 b2 (L ++ L') Mb' ∧ M' = csM Mb' A b0 (cdsL (L ++ L')) a x k u (nI 0) 0 (-1)
      | .inr e => (e.1 = 1 ∨ e.1 = 2 ∨ e.1 = 3) ∧ e.2 ≤ n ∧ ∃ Mb' C a x k u o, RBf M0 A b1 b2 Mb' ∧ M' = csM Mb' A b0 C a x k u o (nI e.1) (nI e.2)
  | 0, L, Mb, p, u, hf, hB, hL, hp, hC, hu => absurd hf (by omega)
  | f + 1, L, Mb, p, u, hf, hB, hL, hp, hC, hu => by
    have hIb := hI.rb hU hB.2.2
    have ht : ∀ i, i < n → tx i < 256 := fun i hi => (hI.2.1 i hi).2
    unfold pRules
    by_cases c1 : kd tx n p = 318
    · rw [if_pos c1]
      refine ⟨_, lpf_end (body := fun a : Int32 × px_M => f_X6_readTape_50 sh a.2 R a.1) (b := csM Mb A b0 (cdsL L) (nI p) (nI (nx tx n p)) (nI (kd tx n p)) u (nI 0) 0 (-1)) ?_, ?_⟩
      · show f_X6_readTape_50 sh (csM Mb A b0 (cdsL L) (nI p) (nI (nx tx n p)) (nI (kd tx n p)) u (nI 0) 0 (-1)) R (nI L.length) = _
        unfold f_X6_readTape_50
        rw [if_neg (show ¬ 16 < nI L.length from nI_nlt (a := 16) hL (by decide)), go_y, bd1_e, if_neg (by decide), cs5, if_pos (by rw [c1]; rfl)]
      · dsimp only
        rw [List.append_nil]
        exact ⟨hL, by omega, fun r hr => absurd hr (by simp), _, _, _, _, Mb, hB, rfl⟩
    · rw [if_neg c1]
      obtain ⟨M1, g1, g2⟩ := c_rule hI hU hB hL hp hC hu
      have hb : (fun a : Int32 × px_M => f_X6_readTape_50 sh a.2 R a.1) (nI L.length, csM Mb A b0 (cdsL L) (nI p) (nI (nx tx n p)) (nI (kd tx n p)) u (nI 0) 0 (-1)) = some (.inl (nI (L.length + 1), M1)) := by
        show f_X6_readTape_50 sh (csM Mb A b0 (cdsL L) (nI p) (nI (nx tx n p)) (nI (kd tx n p)) u (nI 0) 0 (-1)) R (nI L.length) = _
        unfold f_X6_readTape_50
        rw [if_neg (show ¬ 16 < nI L.length from nI_nlt (a := 16) hL (by decide)), go_y, bd1_e, if_neg (by decide), cs5, if_neg (fun z => c1 ((kdL hIb p (c := 318) 318 rfl (by decide)).mp z)), g1, bd1_e, nI_1]
      rw [lpf_go hb]
      revert g2
      generalize pRule tx n p L.length = r1
      intro g2
      match r1, g2 with
      | .inr e, g2 =>
        obtain ⟨q1, q2, Mb', C', a', x', k', u', o', q3, rfl⟩ := g2
        refine ⟨_, lpf_end (body := fun a : Int32 × px_M => f_X6_readTape_50 sh a.2 R a.1) (b := csM Mb' A b0 C' a' x' k' u' o' (nI e.1) (nI e.2)) ?_, q1, q2, Mb', _, _, _, _, _, _, q3, rfl⟩
        show f_X6_readTape_50 sh (csM Mb' A b0 C' a' x' k' u' o' (nI e.1) (nI e.2)) R (nI (L.length + 1)) = _
        unfold f_X6_readTape_50
        rw [go_n (nE q1), bd1_e, if_pos (show (0 : Int32) = 0 from rfl), ite_self]
      | .inl t, g2 =>
        obtain ⟨q1, q2, q3, q4, q5, q6, q7, u', Mb', q8, q9, rfl⟩ := g2
        have ih := c_rules hI hU f (L ++ [t.2]) Mb' t.1 u' (by rw [List.length_append]; simp; omega) q9 (by rw [List.length_append]; simp; omega) q3 q1 q8
        rw [List.length_append, List.length_singleton] at ih
        obtain ⟨M', k1, k2⟩ := ih
        refine ⟨M', k1, ?_⟩
        dsimp only
        revert k2
        generalize pRules tx n f t.1 (L.length + 1) = r2
        intro k2
        match r2, k2 with
        | .inr e, k2 => exact k2
        | .inl L', k2 =>
          dsimp only at k2 ⊢
          rw [List.append_assoc] at k2
          obtain ⟨y1, y2, y3, y4⟩ := k2
          refine ⟨y1, y2, fun r hr => ?_, y4⟩
          rcases List.mem_cons.mp hr with rfl | hr
          · exact ⟨q4, q6, q7⟩
          · exact y3 r hr
end CRULE
