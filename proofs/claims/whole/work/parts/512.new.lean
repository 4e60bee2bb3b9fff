/-! the memory behind the making of a chart, and the questions that make one -/
/-- sh', M', L', R' hold all that sh, M, L, R hold below n; from n + 2 on there is nothing -/
def GrN (sh : px_Sh) (M : px_M) (L : px_L) (R : px_R) (n : Nat) (sh' : px_Sh) (M' : px_M) (L' : px_L) (R' : px_R) : Prop :=
  (∀ c j, c < n → M' c j = M c j) ∧ (∀ c, c < n → L' c = L c) ∧ (∃ w0, sh w0 = some (10, 0) ∧ 220 ≤ w0 ∧ R w0 3 = none ∧ R' w0 3 ≠ none ∧ ∀ c j, c < n → ¬ (c = w0 ∧ j = 3) → R' c j = R c j) ∧ (∀ c j, c < 220 → R' c j = R c j) ∧ (∀ c, c < n → sh' c = sh c) ∧ (∀ c, n + 2 ≤ c → sh' c = none) ∧ SR sh' R'
section NEW
variable {sh : px_Sh} {M : px_M} {L : px_L} {R : px_R} {n nw d r a nd np nf w : Nat} {wa ch ly pa fp : Nat → Nat}
theorem c_new (hI : WI sh M L R nw wa ch ly) (hw : w < nw) (hRn : R (wa w) 3 = none) (hn : 220 ≤ n) (hfree : ∀ c, n ≤ c → sh c = none) (hS : SR sh R) :
    ∃ sh' M0 L0 R0 ch' ly', (∀ p e, f_X10_chartFor sh' M0 R0 (wa w) p = some e → f_X10_chartForN sh M L R n (wa w) p = some (e.1, sh', e.2, L0, R0, n + 2)) ∧ WI sh' M0 L0 R0 nw wa ch' ly' ∧ R0 (wa w) 3 ≠ none ∧ GrN sh M L R n sh' M0 L0 R0 := by
  have hlt : ∀ c q, sh c = some q → c < n := fun c q h => Nat.lt_of_not_le fun z => by rw [hfree c z] at h; cases h
  obtain ⟨h1, h2, h3, h4, h5⟩ := hI
  obtain ⟨⟨k1, k2, k3⟩, k4, wr, an, ws, k5, k6, -⟩ := h3 w hw
  have wan := hlt _ _ k2
  obtain ⟨M0, L0, g1, g2, g3, g4, g5, g6⟩ := c_make (L := L) k2 k3 hn hfree hRn ⟨k4.1.trans k6.1, k4.2.2.trans k6.2.2⟩ k5.1
  obtain ⟨sh2, hsh2⟩ : ∃ sh2, sh2 = px_c (px_c sh n (some (1, 0))) (n + 1) (some (14, 20992)) := ⟨_, rfl⟩
  obtain ⟨R0, hR0⟩ : ∃ R0, R0 = px_u (px_u (px_c (px_c R n (fun _ => none)) (n + 1) (fun _ => none)) n 3 (some (n + 1))) (wa w) 3 (some n) := ⟨_, rfl⟩
  have sS : SR sh2 R0 := by
    rw [hsh2, hR0]
    exact SR.put (SR.put (SR.new (SR.new hS hn) (by omega)) (rlay_dyn (decide_eq_true hn))) (rlay_dyn (decide_eq_true k3))
  rw [← hsh2, ← hR0] at g1
  have rw3 : R0 (wa w) 3 = some n := by rw [hR0]; exact px_u_in _ _ _ _
  have rn : R0 n 3 = some (n + 1) := by rw [hR0, pu_n (by omega)]; exact px_u_in _ _ _ _
  have ro : ∀ c j, c < n → ¬ (c = wa w ∧ j = 3) → R0 c j = R c j := fun c j q1 q2 => by
    rw [hR0, pu_n q2, pu_n (by omega), px_c_n (by omega), px_c_n (by omega)]
  have so : ∀ c, c < n → sh2 c = sh c := fun c q => by rw [hsh2, px_c_n (by omega), px_c_n (by omega)]
  have sn : sh2 n = some (1, 0) := by rw [hsh2, px_c_n (by omega)]; exact px_c_in _ _ _
  have sy : sh2 (n + 1) = some (14, 20992) := by rw [hsh2]; exact px_c_in _ _ _
  have mo : ∀ c j, c < n → M0 c j = M c j := fun c j q => g2 c j (by omega) (by omega)
  refine ⟨sh2, M0, L0, R0, fun v => if v = w then n else ch v, fun v => if v = w then n + 1 else ly v, g1, ?_, by rw [rw3]; simp, mo, fun c q => g3 c (by omega) (by omega), ⟨wa w, k2, k3, hRn, by rw [rw3]; simp, ro⟩, fun c j q => ro c j (by omega) (by omega), so, fun c q => ?_, sS⟩
  · refine ⟨h1, by rw [mo 14 5 (by omega), mo 73 27 (by omega)]; exact h2, fun v hv => ?_, h4, fun v u hv hu e q1 q2 => ?_⟩
    · obtain ⟨⟨t1, t2, t3⟩, t4, wr', an', ws', t5, t6, t7⟩ := h3 v hv
      have wvn := hlt _ _ t2
      unfold WorI
      rw [mo (wa v) 0 wvn, mo (wa v) 1 wvn, mo (wa v) 2 wvn, mo 90 v (by omega), mo 91 v (by omega), mo 92 v (by omega), ro 15 v (by omega) (by omega), so _ wvn]
      refine ⟨⟨t1, t2, t3⟩, t4, wr', an', ws', t5, t6, ?_⟩
      by_cases e : v = w
      · subst e
        have e1 : wr' = wr ∧ ws' = ws := ⟨(nI_eq (by omega) (by omega)).mp (t6.1.symm.trans k6.1), (nI_eq (by omega) (by omega)).mp (t6.2.2.symm.trans k6.2.2)⟩
        right
        simp only [if_true]
        refine ⟨⟨rw3, sn, hn⟩, ⟨rn, sy, by omega⟩, ?_, ?_⟩
        · rw [e1.2]; exact g4
        · rw [e1.1, e1.2, g5]; exact ⟨g6, Or.inl rfl⟩
      · have hne : wa v ≠ wa w := fun z => e (h4 v w hv hw z)
        simp only [if_neg e]
        rw [ro (wa v) 3 wvn (fun z => hne z.1)]
        rcases t7 with t7 | ⟨⟨c1, c2, c3⟩, ⟨l1, l2, l3⟩, c4, c5⟩
        · exact Or.inl t7
        · right
          have cn := hlt _ _ c2
          have ln := hlt _ _ l2
          have cne : ch v ≠ wa w := fun z => by rw [z, k2] at c2; simp at c2
          rw [so _ cn, so _ ln, ro (ch v) 3 cn (fun z => cne z.1), mo (ch v) 0 cn, mo (ch v) 1 cn, mo (ch v) 2 cn, g3 (ly v) (by omega) (by omega)]
          exact ⟨⟨c1, c2, c3⟩, ⟨l1, l2, l3⟩, c4, c5⟩
    · have old : ∀ v, v < nw → v ≠ w → R0 (wa v) 3 ≠ none → R (wa v) 3 ≠ none ∧ ch v < n ∧ ly v < n := by
        intro v hv e q
        obtain ⟨⟨t1, t2, t3⟩, t4, wr', an', ws', t5, t6, t7⟩ := h3 v hv
        have hne : wa v ≠ wa w := fun z => e (h4 v w hv hw z)
        rw [ro (wa v) 3 (hlt _ _ t2) (fun z => hne z.1)] at q
        rcases t7 with t7 | ⟨⟨c1, c2, c3⟩, ⟨l1, l2, l3⟩, c4, c5⟩
        · exact absurd t7 q
        · exact ⟨q, hlt _ _ c2, hlt _ _ l2⟩
      by_cases e1 : v = w
      · have e2 : u ≠ w := fun z => e (e1.trans z.symm)
        obtain ⟨o1, o2, o3⟩ := old u hu e2 q2
        simp only [if_pos e1, if_neg e2]
        omega
      · obtain ⟨o1, o2, o3⟩ := old v hv e1 q1
        by_cases e2 : u = w
        · simp only [if_neg e1, if_pos e2]
          omega
        · obtain ⟨o4, o5, o6⟩ := old u hu e2 q2
          simp only [if_neg e1, if_neg e2]
          exact h5 v u hv hu e o1 o4
  · rw [hsh2, px_c_n (by omega), px_c_n (by omega)]; exact hfree c (by omega)
/-- what a question that makes the chart needs to know -/
def MkN (sh : px_Sh) (M : px_M) (L : px_L) (R : px_R) (n w A r : Nat) (sh' : px_Sh) (M0 : px_M) (L0 : px_L) (R0 : px_R) : Prop :=
  (∀ p e, f_X10_chartFor sh' M0 R0 A p = some e → f_X10_chartForN sh M L R n A p = some (e.1, sh', e.2, L0, R0, n + 2)) ∧ (∀ j, M0 14 j = M 14 j) ∧ (∀ j, M0 A j = M A j) ∧ R 15 w = some A ∧ R0 15 w = some A ∧ sh A = some (10, 0) ∧ sh' A = some (10, 0) ∧ w < 4
theorem n_days {A : Nat} {sh' : px_Sh} {M0 : px_M} {L0 : px_L} {R0 : px_R} (h : MkN sh M L R n w A r sh' M0 L0 R0) {x y : Int32} {e : Int32 × px_M × px_L} (he : f_X9_fewestDays sh' M0 L0 R0 (nI w) x y = some e) : f_X9_fewestDaysN sh M L R n (nI w) x y = some (e.1, sh', e.2.1, e.2.2, R0, n + 2) := by
  obtain ⟨h1, h2, h3, h4, h5, h6, h7, h8⟩ := h
  unfold f_X9_fewestDays at he
  unfold f_X9_fewestDaysN
  rw [h2 1, h2 2, h2 0] at he
  obtain ⟨t, t1, he⟩ := bd1_some he
  rw [nm_u, ok_t (ix_k h8 (by decide)), nI_clamp (show w < 2 ^ 31 by omega), h5, bd1_e, ok_t (hk_t h7)] at he
  have ea : ∀ u v, f_X10_aheadOn sh' M0 A u v = f_X10_aheadOn sh M A u v := fun u v => by
    unfold f_X10_aheadOn f_X10_angleOn
    rw [ok_t (hk_t h7), ok_t (hk_t h7), ok_t (hk_t h7), ok_t (hk_t h6), ok_t (hk_t h6), ok_t (hk_t h6), h3 1, h3 2]
  rw [ea] at he
  obtain ⟨g, g1, he⟩ := bd1_some he
  rw [ok_t (ix_k h8 (by decide)), bd1_e, ok_t (hk_t h7)] at he
  obtain ⟨c, c1, he⟩ := bd1_some he
  rw [t1, bd1_e, nm_u, ok_t (ix_k h8 (by decide)), nI_clamp (show w < 2 ^ 31 by omega), h4, bd1_e, ok_t (hk_t h6), g1, bd1_e, ok_t (ix_k h8 (by decide)), bd1_e, ok_t (hk_t h6), h1 _ _ c1, bd1_e]
  obtain ⟨o, he⟩ := ok_some he
  obtain ⟨f, f1, he⟩ := bd1_some he
  show ok (hk sh' c.1 1) (bd1 (f_X1_fewestFrom sh' c.2 L0 R0 c.1 (c.2 14 1) g) _) = _
  rw [ok_t o, f1, bd1_e]
  cases he
  rfl
theorem n_first {A : Nat} {sh' : px_Sh} {M0 : px_M} {L0 : px_L} {R0 : px_R} (h : MkN sh M L R n w A r sh' M0 L0 R0) {x y : Int32} {e : Int32 × px_M × px_L} (he : f_X9_steerOfFirstWay sh' M0 L0 R0 (nI w) x y = some e) : f_X9_steerOfFirstWayN sh M L R n (nI w) x y = some (e.1, sh', e.2.1, e.2.2, R0, n + 2) := by
  unfold f_X9_steerOfFirstWay at he
  unfold f_X9_steerOfFirstWayN
  obtain ⟨f, f1, he⟩ := bd1_some he
  rw [n_days h f1, bd1_e]
  by_cases q : x < f.1
  · rw [if_pos q] at he
    rw [if_pos (show x < (f.1, sh', f.2.1, f.2.2, R0, n + 2).1 from q)]
    obtain ⟨o1, he⟩ := ok_some he
    obtain ⟨b, b1, he⟩ := bd1_some he
    obtain ⟨o2, he⟩ := ok_some he
    obtain ⟨c, c1, he⟩ := bd1_some he
    rw [nm_u] at he
    obtain ⟨o3, he⟩ := ok_some he
    obtain ⟨b', b1', he⟩ := bd1_some he
    obtain ⟨o4, he⟩ := ok_some he
    obtain ⟨g, g1, he⟩ := bd1_some he
    obtain ⟨l, l1, hlast⟩ := bd1_some he
    show ok (ix (nI w) 4) (bd1 (R0 15 (nI w).toNatClampNeg) fun b_22 => ok (hk sh' b_22 10) (bd1 (f_X10_chartFor sh' f.2.1 R0 b_22 y) _)) = _
    rw [ok_t o1, b1, bd1_e, ok_t o2, c1, bd1_e, nm_u, ok_t o3]
    rw [b1] at b1'
    show bd1 (R0 15 (nI w).toNatClampNeg) _ = _
    rw [b1, bd1_e]
    cases b1'
    rw [show hk (f.1, sh', f.2.1, f.2.2, R0, n + 2).2.1 b 10 = true from o4, ok_y]
    show bd1 (f_X10_aheadOn sh' c.2 b (c.2 14 0) (c.2 14 2)) _ = _
    rw [g1, bd1_e]
    show bd1 (lpf (fun a : Int32 × Int32 × Int32 × Int32 × px_M × px_L => f_X9_steerOfFirstWay_60 sh' a.2.2.2.2.1 a.2.2.2.2.2 R0 x y f.1 c.1 a.1 a.2.1 a.2.2.1 a.2.2.2.1) (c.2 14 1, g, 1, 0, c.2, f.2.2)) _ = _
    rw [l1, bd1_e]
    cases hlast
    rfl
  · rw [if_neg q] at he
    rw [if_neg (show ¬ x < (f.1, sh', f.2.1, f.2.2, R0, n + 2).1 from q)]
    cases he
    rfl
end NEW
