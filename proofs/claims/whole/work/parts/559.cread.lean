/-! the class reads a text as it is meant -/
section CREAD
variable {tx : Nat → Nat} {n : Nat} {sh : px_Sh} {R : px_R} {M0 : px_M} {A b0 : Nat}
/-- what the class's reader needs -/
def CrI (tx : Nat → Nat) (n : Nat) (sh : px_Sh) (R : px_R) (M0 : px_M) (A b0 : Nat) : Prop := n ≤ 300 ∧ (∀ i, i < n → M0 21 i = nI (tx i) ∧ tx i < 256) ∧ M0 20 2 = nI n ∧ (A ≠ 20 ∧ b0 ≠ 20 ∧ A ≠ 21 ∧ b0 ≠ 21 ∧ A ≠ b0) ∧ sh A = some (7, 0) ∧ R A 0 = some b0 ∧ sh b0 = some (13, 300) ∧ R 20 10 = some A
def okN (tx : Nat → Nat) (n p : Nat) (u : Int32) : Prop := kd tx n p = 317 → u = nI (cnv tx n p)
def OC (tx : Nat → Nat) (n : Nat) (M0 : px_M) (A b0 : Nat) (C : List Int32) (o : Nat) (r : Res) (M' : px_M) : Prop := match r with
  | .inl t => ∃ u, okN tx n t.1 u ∧ M' = csM M0 A b0 (C ++ t.2.1) (nI t.1) (nI (nx tx n t.1)) (nI (kd tx n t.1)) u (nI o) 0 (-1)
  | .inr e => ∃ C' a x k u o', C'.length ≤ 300 ∧ M' = csM M0 A b0 C' a x k u o' (nI e.1) (nI e.2)
def SpC (tx : Nat → Nat) (n : Nat) (sh : px_Sh) (R : px_R) (M0 : px_M) (A b0 : Nat) (rd : px_Sh → px_M → px_R → Option px_M) (o : Nat) (P : Nat → Res) : Prop :=
  ∀ (C : List Int32) (p : Nat) (u : Int32), p ≤ n → C.length ≤ p → okN tx n p u → ∃ M', rd sh (csM M0 A b0 C (nI p) (nI (nx tx n p)) (nI (kd tx n p)) u (nI o) 0 (-1)) R = some M' ∧ OC tx n M0 A b0 C o (P p) M'
def ErC (sh : px_Sh) (R : px_R) (M0 : px_M) (A b0 : Nat) (rd : px_Sh → px_M → px_R → Option px_M) : Prop :=
  ∀ (C : List Int32) (a x k u o m l : Int32), m ≠ 0 → rd sh (csM M0 A b0 C a x k u o m l) R = some (csM M0 A b0 C a x k u o m l)
section PRIM
variable {C : List Int32} {a x k u o m l : Int32}
theorem go_y : f_X6_goesOn (csM M0 A b0 C a x k u o 0 l) = some 1 := rfl
theorem go_n (h : m ≠ 0) : f_X6_goesOn (csM M0 A b0 C a x k u o m l) = some 0 := by
  unfold f_X6_goesOn f_X6_goesOn_12
  rw [cs8, if_neg h]; rfl
theorem c_refuse (e : Int32) : f_X6_refuse (csM M0 A b0 C a x k u o 0 l) e = some (csM M0 A b0 C a x k u o e a) := by
  unfold f_X6_refuse f_X6_refuse_20
  rw [go_y, bd1_e, if_neg (by decide), nm_u, csu8, nm_u, cs3, nm_u, csu9]
theorem c_refuse_n (h : m ≠ 0) (e : Int32) : f_X6_refuse (csM M0 A b0 C a x k u o m l) e = some (csM M0 A b0 C a x k u o m l) := by
  unfold f_X6_refuse f_X6_refuse_20
  rw [go_n h, bd1_e, if_pos rfl]
theorem c_demand_n (h : m ≠ 0) (e : Int32) : f_X6_demand (csM M0 A b0 C a x k u o m l) e = some (csM M0 A b0 C a x k u o m l) := by
  unfold f_X6_demand f_X6_demand_27
  rw [go_n h, bd1_e, c_refuse_n h, bd1_e, if_pos rfl, ite_self]
end PRIM
/-- one sign on -/
theorem c_next (hI : CrI tx n sh R M0 A b0) {C : List Int32} {p : Nat} (hp : p ≤ n) (a k u o m l : Int32) : ∃ u', okN tx n (tk tx n p) u' ∧ f_X6_scan (csM M0 A b0 C a (nI (nx tx n p)) k u o m l) = some (csM M0 A b0 C (nI (tk tx n p)) (nI (nx tx n (tk tx n p))) (nI (kd tx n (tk tx n p))) u' o m l) := by
  obtain ⟨h1, h2, h3, h4, -⟩ := hI
  exact ⟨_, fun e => if_pos e, c_scan h1 h2 h3 h4.2.2.1 h4.2.2.2.1 (nx_le hp)⟩
theorem kdI (hI : CrI tx n sh R M0 A b0) (p : Nat) {c : Nat} (hc : c < 2 ^ 31) : nI (kd tx n p) = nI c ↔ kd tx n p = c := nI_eq (by have := kd_le (fun i hi => (hI.2.1 i hi).2) p; omega) hc
theorem kdL (hI : CrI tx n sh R M0 A b0) (p : Nat) {c : Nat} (w : Int32) (hw : w = nI c) (hc : c < 2 ^ 31) : nI (kd tx n p) = w ↔ kd tx n p = c := by rw [hw]; exact kdI hI p hc
theorem c_demand_y (hI : CrI tx n sh R M0 A b0) {C : List Int32} {p w : Nat} (hp : p ≤ n) (hw : w < 2 ^ 31) (hk : kd tx n p = w) (u o : Int32) : ∃ u', okN tx n (tk tx n p) u' ∧ f_X6_demand (csM M0 A b0 C (nI p) (nI (nx tx n p)) (nI (kd tx n p)) u o 0 (-1)) (nI w) = some (csM M0 A b0 C (nI (tk tx n p)) (nI (nx tx n (tk tx n p))) (nI (kd tx n (tk tx n p))) u' o 0 (-1)) := by
  obtain ⟨u', g1, g2⟩ := c_next hI (C := C) hp (nI p) (nI (kd tx n p)) u o 0 (-1)
  refine ⟨u', g1, ?_⟩
  unfold f_X6_demand f_X6_demand_27
  rw [cs5, if_pos (by rw [hk]), go_y, bd1_e, if_neg (by decide), g2, bd1_e]
theorem c_demand_x (hI : CrI tx n sh R M0 A b0) {C : List Int32} {p w : Nat} (hw : w < 2 ^ 31) (hk : ¬ kd tx n p = w) (a x u o : Int32) : f_X6_demand (csM M0 A b0 C a x (nI (kd tx n p)) u o 0 (-1)) (nI w) = some (csM M0 A b0 C a x (nI (kd tx n p)) u o 1 a) := by
  unfold f_X6_demand f_X6_demand_27
  rw [cs5, if_neg (fun z => hk ((kdI hI p hw).mp z)), c_refuse, bd1_e]
theorem c_enter_y (hI : CrI tx n sh R M0 A b0) {C : List Int32} {p o : Nat} (hp : p ≤ n) (ho : o < 6) (a k u : Int32) : ∃ u', okN tx n (tk tx n p) u' ∧ f_X6_enter (csM M0 A b0 C a (nI (nx tx n p)) k u (nI o) 0 (-1)) = some (csM M0 A b0 C (nI (tk tx n p)) (nI (nx tx n (tk tx n p))) (nI (kd tx n (tk tx n p))) u' (nI (o + 1)) 0 (-1)) := by
  obtain ⟨u', g1, g2⟩ := c_next hI (C := C) hp a k u (nI (o + 1)) 0 (-1)
  refine ⟨u', g1, ?_⟩
  unfold f_X6_enter f_X6_enter_31
  rw [cs7, if_pos (show nI o < 6 from nI_lt (b := 6) ho (by decide)), nm_u, nm_u, csu7, nI_1, g2, bd1_e]
theorem c_enter_x {C : List Int32} (a x k u : Int32) : f_X6_enter (csM M0 A b0 C a x k u (nI 6) 0 (-1)) = some (csM M0 A b0 C a x k u (nI 6) 3 a) := by
  unfold f_X6_enter f_X6_enter_31
  rw [cs7, if_neg (by decide), c_refuse, bd1_e]
theorem c_addI (hI : CrI tx n sh R M0 A b0) {C : List Int32} (hC : C.length ≤ 300) (a x k u o m l t : Int32) : f_X7_add sh (csM M0 A b0 C a x k u o m l) R A t = some (csM M0 A b0 (ad C t) a x k u o m l) := c_add hI.2.2.2.1.1 hI.2.2.2.1.2.1 hI.2.2.2.1.2.2.2.2 hI.2.2.2.2.1 hI.2.2.2.2.2.1 hI.2.2.2.2.2.2.1 hC t
theorem ad_lt {C : List Int32} (h : C.length < 300) (t : Int32) : ad C t = C ++ [t] := if_pos h
theorem nE {e : Nat} (h : e = 1 ∨ e = 2 ∨ e = 3) : nI e ≠ 0 := by rcases h with rfl | rfl | rfl <;> decide
/-- a unit -/
theorem c_unit (hI : CrI tx n sh R M0 A b0) {rd : px_Sh → px_M → px_R → Option px_M} {o h : Nat} {rc : Option (Nat → Res)} (hrc : ∀ P, rc = some P → (o < 6 ∧ SpC tx n sh R M0 A b0 rd (o + 1) P) ∧ ∀ p, p ≤ n → GdR n h p (P p)) (hno : rc = none → o = 6) (hE : ErC sh R M0 A b0 rd) : SpC tx n sh R M0 A b0 (o_X6_readUnit rd) o (pUnit tx n rc) := by
  intro C p u hp hC hu
  have hI' := hI
  obtain ⟨i1, i2, i3, i4, i5, i6, i7, i8⟩ := hI'
  have ht : ∀ i, i < n → tx i < 256 := fun i hi => (i2 i hi).2
  have hkl := kd_le ht p
  unfold o_X6_readUnit o_X6_readUnit_64 o_X6_readUnit_120 o_X6_readUnit_136 pUnit
  rw [go_y, bd1_e, if_neg (by decide), cs5, ifi (kdL hI p (c := 317) 317 rfl (by decide)), ifi (ltL (a := kd tx n p) (b := 307) 307 rfl (by omega) (by decide)), ifi (ltL' (a := 313) (b := kd tx n p) 313 rfl (by decide) (by omega)), ifi (kdL hI p (c := 40) 40 rfl (by decide)), ifi (kdL hI p (c := 314) 314 rfl (by decide)), ifi (kdL hI p (c := 315) 315 rfl (by decide))]
  by_cases c1 : kd tx n p = 317
  · have hp1 := kd_n ht (show kd tx n p < 318 by omega)
    obtain ⟨k1, k2, k3⟩ := cnv_ok ht p
    rw [if_pos c1, if_pos c1]
    unfold f_X6_readNumber f_X6_readNumber_33
    rw [cs6, hu c1, ifi ((leL (a := cnv tx n p) (b := 9999) 9999 rfl (by omega) (by decide)).trans k1)]
    by_cases c2 : nv tx n p ≤ 9999
    · rw [if_pos c2, if_pos c2, i8, bd1_e, ok_t (hk_t i5), k2 (k1.mpr c2), c_addI hI (by omega), bd1_e, ad_lt (by omega)]
      obtain ⟨u', g1, g2⟩ := c_next hI (C := C ++ [nI (nv tx n p)]) hp (nI p) (nI (kd tx n p)) (nI (nv tx n p)) (nI o) 0 (-1)
      rw [g2, bd1_e, bd1_e]
      exact ⟨_, rfl, u', g1, rfl⟩
    · rw [if_neg c2, if_neg c2, c_refuse, bd1_e, bd1_e]
      exact ⟨_, rfl, C, _, _, _, _, _, by omega, rfl⟩
  · rw [if_neg c1, if_neg c1]
    by_cases c3 : 307 ≤ kd tx n p ∧ kd tx n p ≤ 313
    · have hp1 := kd_n ht (show kd tx n p < 318 by omega)
      rw [if_pos c3, if_neg (by omega), if_neg (by omega), i8, bd1_e, ok_t (hk_t i5), c_addI hI (by omega), bd1_e, ad_lt (by omega)]
      obtain ⟨u', g1, g2⟩ := c_next hI (C := C ++ [-(nI (kd tx n p))]) hp (nI p) (nI (kd tx n p)) u (nI o) 0 (-1)
      rw [g2, bd1_e]
      exact ⟨_, rfl, u', g1, rfl⟩
    · rw [if_neg c3]
      have hm : ∀ (Z Y : Option px_M), (if kd tx n p < 307 then Z else if 313 < kd tx n p then Z else Y) = Z := by
        intro Z Y
        by_cases q : kd tx n p < 307
        · rw [if_pos q]
        · rw [if_neg q, if_pos (by omega)]
      rw [hm]
      by_cases c4 : kd tx n p = 40
      · have hp1 := kd_n ht (show kd tx n p < 318 by omega)
        have hk1 := tk_gt (tx := tx) hp1
        rw [if_pos c4, if_pos c4]
        match rc, hrc, hno with
        | none, _, hno =>
          obtain rfl := hno rfl
          rw [c_enter_x, bd1_e, hE _ _ _ _ _ _ _ _ (by decide), bd1_e, c_demand_n (by decide), bd1_e, nm_u, nm_u, csu7]
          exact ⟨_, rfl, C, _, _, _, _, _, by omega, rfl⟩
        | some P, hrc, _ =>
          obtain ⟨⟨ho, hS⟩, hG⟩ := hrc P rfl
          dsimp only
          obtain ⟨u1, g1, g2⟩ := c_enter_y hI (C := C) hp ho (nI p) (nI (kd tx n p)) u
          rw [g2, bd1_e]
          obtain ⟨M1, g3, g4⟩ := hS C (tk tx n p) u1 (tk_le hp) (by omega) g1
          rw [g3, bd1_e]
          have hG1 := hG (tk tx n p) (tk_le hp)
          revert g4 hG1
          generalize P (tk tx n p) = r1
          intro g4 hG1
          match r1, g4, hG1 with
          | .inr e, g4, hG1 =>
            obtain ⟨C', a', x', k', u', o', hC', rfl⟩ := g4
            rw [c_demand_n (nE hG1.1), bd1_e, nm_u, nm_u, csu7]
            exact ⟨_, rfl, C', _, _, _, _, _, hC', rfl⟩
          | .inl (q, c, v), g4, hG1 =>
            obtain ⟨u2, g5, rfl⟩ := g4
            obtain ⟨G1, G2, -⟩ := hG1
            show ∃ M', _ ∧ OC tx n M0 A b0 C o (if kd tx n q = 41 then _ else _) M'
            dsimp only
            by_cases c5 : kd tx n q = 41
            · obtain ⟨u3, g6, g7⟩ := c_demand_y hI (C := C ++ c) (w := 41) G2 (by decide) c5 u2 (nI (o + 1))
              rw [if_pos c5, show (41 : Int32) = nI 41 from rfl, g7, bd1_e, nm_u, nm_u, csu7, cs7, nI_pred]
              exact ⟨_, rfl, u3, g6, rfl⟩
            · rw [if_neg c5, show (41 : Int32) = nI 41 from rfl, c_demand_x hI (by decide) c5, bd1_e, nm_u, nm_u, csu7]
              have : (C ++ c).length ≤ 300 := by
                simp only [List.length_append]
                simp only at G1 G2
                omega
              exact ⟨_, rfl, C ++ c, _, _, _, _, _, this, rfl⟩
      · rw [if_neg c4, if_neg c4]
        by_cases c6 : kd tx n p = 314 ∨ kd tx n p = 315
        · have hp1 := kd_n ht (show kd tx n p < 318 by omega)
          have hk1 := tk_gt (tx := tx) hp1
          have hk2 := tk_le (tx := tx) hp
          have hm2 : ∀ (Z Y : Option px_M), (if kd tx n p = 314 then Z else if kd tx n p = 315 then Z else Y) = Z := by
            intro Z Y
            by_cases q : kd tx n p = 314
            · rw [if_pos q]
            · rw [if_neg q, if_pos (by omega)]
          rw [hm2, if_pos c6]
          unfold o_X6_readPair
          obtain ⟨u1, g1, g2⟩ := c_next hI (C := C) hp (nI p) (nI (kd tx n p)) u (nI o) 0 (-1)
          rw [g2, bd1_e, cs5, ifi (kdL hI (tk tx n p) (c := 40) 40 rfl (by decide))]
          by_cases c7 : kd tx n (tk tx n p) = 40
          · have hp2 := kd_n ht (show kd tx n (tk tx n p) < 318 by omega)
            have hk3 := tk_gt (tx := tx) hp2
            rw [if_pos c7, if_pos c7]
            match rc, hrc, hno with
            | none, _, hno =>
              obtain rfl := hno rfl
              rw [c_enter_x, bd1_e, hE _ _ _ _ _ _ _ _ (by decide), bd1_e, c_demand_n (by decide), bd1_e, hE _ _ _ _ _ _ _ _ (by decide), bd1_e, c_demand_n (by decide), bd1_e, nm_u, nm_u, csu7, i8, bd1_e, ok_t (hk_t i5), c_addI hI (by omega), bd1_e, bd1_e]
              exact ⟨_, rfl, _, _, _, _, _, _, ad_len (by omega) _, rfl⟩
            | some P, hrc, _ =>
              obtain ⟨⟨ho, hS⟩, hG⟩ := hrc P rfl
              dsimp only
              obtain ⟨u2, g3, g4⟩ := c_enter_y hI (C := C) hk2 ho (nI (tk tx n p)) (nI (kd tx n (tk tx n p))) u1
              rw [g4, bd1_e]
              obtain ⟨M1, g5, g6⟩ := hS C (tk tx n (tk tx n p)) u2 (tk_le hk2) (by omega) g3
              rw [g5, bd1_e]
              have hG1 := hG (tk tx n (tk tx n p)) (tk_le hk2)
              revert g6 hG1
              generalize P (tk tx n (tk tx n p)) = r1
              intro g6 hG1
              match r1, g6, hG1 with
              | .inr e, g6, hG1 =>
                obtain ⟨C', a', x', k', u', o', hC', rfl⟩ := g6
                have hne := nE hG1.1
                rw [c_demand_n hne, bd1_e, hE _ _ _ _ _ _ _ _ hne, bd1_e, c_demand_n hne, bd1_e, nm_u, nm_u, csu7, i8, bd1_e, ok_t (hk_t i5), c_addI hI hC', bd1_e, bd1_e]
                exact ⟨_, rfl, _, _, _, _, _, _, ad_len hC' _, rfl⟩
              | .inl (q, c, v), g6, hG1 =>
                obtain ⟨u3, g7, rfl⟩ := g6
                obtain ⟨G1, G2, -⟩ := hG1
                simp only at G1 G2
                have hCc : (C ++ c).length ≤ q := by
                  simp only [List.length_append]
                  omega
                show ∃ M', _ ∧ OC tx n M0 A b0 C o (if kd tx n q = 44 then _ else _) M'
                dsimp only
                by_cases c8 : kd tx n q = 44
                · obtain ⟨u4, g8, g9⟩ := c_demand_y hI (C := C ++ c) (w := 44) G2 (by decide) c8 u3 (nI (o + 1))
                  have hk4 := tk_ge (tx := tx) (n := n) q
                  rw [if_pos c8, show (44 : Int32) = nI 44 from rfl, g9, bd1_e]
                  obtain ⟨M2, g10, g11⟩ := hS (C ++ c) (tk tx n q) u4 (tk_le G2) (by omega) g8
                  rw [g10, bd1_e]
                  have hG2 := hG (tk tx n q) (tk_le G2)
                  revert g11 hG2
                  generalize P (tk tx n q) = r2
                  intro g11 hG2
                  match r2, g11, hG2 with
                  | .inr e, g11, hG2 =>
                    obtain ⟨C', a', x', k', u', o', hC', rfl⟩ := g11
                    have hne := nE hG2.1
                    rw [c_demand_n hne, bd1_e, nm_u, nm_u, csu7, i8, bd1_e, ok_t (hk_t i5), c_addI hI hC', bd1_e, bd1_e]
                    exact ⟨_, rfl, _, _, _, _, _, _, ad_len hC' _, rfl⟩
                  | .inl (q2, c2, v2), g11, hG2 =>
                    obtain ⟨u5, g12, rfl⟩ := g11
                    obtain ⟨G3, G4, -⟩ := hG2
                    simp only at G3 G4
                    have hCc2 : (C ++ c ++ c2).length ≤ q2 := by
                      simp only [List.length_append] at hCc ⊢
                      omega
                    have hlt : (C ++ c ++ c2).length < 300 := by
                      simp only [List.length_append] at hCc hCc2 ⊢
                      omega
                    show ∃ M', _ ∧ OC tx n M0 A b0 C o (if kd tx n q2 = 41 then _ else _) M'
                    dsimp only
                    by_cases c9 : kd tx n q2 = 41
                    · obtain ⟨u6, g13, g14⟩ := c_demand_y hI (C := C ++ c ++ c2) (w := 41) G4 (by decide) c9 u5 (nI (o + 1))
                      rw [if_pos c9, show (41 : Int32) = nI 41 from rfl, g14, bd1_e, nm_u, nm_u, csu7, cs7, nI_pred, i8, bd1_e, ok_t (hk_t i5), c_addI hI (by omega), bd1_e, bd1_e, ad_lt hlt]
                      refine ⟨_, rfl, u6, g13, ?_⟩
                      simp only [List.append_assoc]
                    · rw [if_neg c9, show (41 : Int32) = nI 41 from rfl, c_demand_x hI (by decide) c9, bd1_e, nm_u, nm_u, csu7, i8, bd1_e, ok_t (hk_t i5), c_addI hI (by omega), bd1_e, bd1_e]
                      exact ⟨_, rfl, _, _, _, _, _, _, ad_len (by omega) _, rfl⟩
                · have hne : (1 : Int32) ≠ 0 := by decide
                  rw [if_neg c8, show (44 : Int32) = nI 44 from rfl, c_demand_x hI (by decide) c8, bd1_e, hE _ _ _ _ _ _ _ _ hne, bd1_e, c_demand_n hne, bd1_e, nm_u, nm_u, csu7, i8, bd1_e, ok_t (hk_t i5), c_addI hI (by omega), bd1_e, bd1_e]
                  exact ⟨_, rfl, _, _, _, _, _, _, ad_len (by omega) _, rfl⟩
          · rw [if_neg c7, if_neg c7, c_refuse, bd1_e, bd1_e]
            exact ⟨_, rfl, C, _, _, _, _, _, by omega, rfl⟩
        · rw [if_neg c6, if_neg (by omega), if_neg (by omega), c_refuse, bd1_e]
          exact ⟨_, rfl, C, _, _, _, _, _, by omega, rfl⟩
end CREAD
