/-! fly: the class flies all days, then the reference -/
def mix (Mc Mr : px_M) : px_M := fun c j => if 73 ≤ c ∧ c ≤ 218 then Mr c j else Mc c j
theorem mix_r {Mc Mr : px_M} {c j : Nat} (h1 : 73 ≤ c) (h2 : c ≤ 218) : mix Mc Mr c j = Mr c j := if_pos ⟨h1, h2⟩
theorem mix_c {Mc Mr : px_M} {c j : Nat} (h : c < 73 ∨ 219 ≤ c) : mix Mc Mr c j = Mc c j := if_neg (by omega)
def JI (sh : px_Sh) (L : px_L) (R : px_R) (A B n : Nat) (tx : Nat → Nat) (Lr : List Rul) (np nf nw nd : Nat) (pa fp wa ch ly : Nat → Nat) (d r a : Nat) (M : px_M) : Prop :=
  SailI sh M R np nf pa fp ∧ WI sh M L R nw wa ch ly ∧ VI M nw d r a nd ∧ (∀ k, k < nd → ∃ p, p < np ∧ M 16 k = nI p) ∧ (∀ i, i < np → 0 ≤ M 84 i ∧ M 84 i ≤ 2) ∧ RuI M R A B tx n Lr
section FLY
variable {sh : px_Sh} {L : px_L} {R : px_R} {np nf nw nd A B n : Nat} {pa fp wa ch ly tx : Nat → Nat} {Lr : List Rul}
theorem WI.fr2 {M M' : px_M} (h : WI sh M L R nw wa ch ly) (hM : ∀ c j, (c = 14 ∧ j = 5) ∨ (c = 73 ∧ j = 27) ∨ (90 ≤ c ∧ c ≤ 92) ∨ (220 ≤ c ∧ md sh c j = 3) → M' c j = M c j) : WI sh M' L R nw wa ch ly := by
  obtain ⟨h1, h2, h3, h4, h5⟩ := h
  refine ⟨h1, ?_, fun w hw => ?_, h4, h5⟩
  · rw [hM 14 5 (by omega), hM 73 27 (by omega)]; exact h2
  · obtain ⟨⟨k1, k2, k3⟩, k4, wr, an, ws, k5, k6, k7⟩ := h3 w hw
    have m10 := fun j => md_10 (j := j) k3 k2
    unfold WorI
    rw [hM _ 0 (by have := m10 0; omega), hM _ 1 (by have := m10 1; omega), hM _ 2 (by have := m10 2; omega), hM 90 w (by omega), hM 91 w (by omega), hM 92 w (by omega)]
    refine ⟨⟨k1, k2, k3⟩, k4, wr, an, ws, k5, k6, ?_⟩
    rcases k7 with k7 | ⟨⟨c1, c2, c3⟩, ⟨l1, l2, l3⟩, c4, c5⟩
    · exact Or.inl k7
    · right
      rw [hM _ 0 (by have := md_1 c3 c2 0; omega), hM _ 1 (by have := md_1 c3 c2 1; omega), hM _ 2 (by have := md_1 c3 c2 2; omega)]
      exact ⟨⟨c1, c2, c3⟩, ⟨l1, l2, l3⟩, c4, c5⟩
theorem vStr_c {M M' : px_M} (h : ∀ i, i < np → ∀ j, M' (pa i) j = M (pa i) j) : vStr M' pa np = vStr M pa np := by
  have e : sY M' pa np 3 = sY M pa np 3 := by
    unfold sY
    refine fld_congr _ _ _ fun j _ hj s => ?_
    unfold pY
    rw [h j (by omega), h j (by omega), h j (by omega), h j (by omega), h j (by omega)]
  unfold vStr
  rw [e]
theorem l6_r {rho v4 v6 v7 : Int32} (h : 0 ≤ v6 ∧ v6 ≤ 2) : 0 ≤ l6 rho v4 v6 v7 ∧ l6 rho v4 v6 v7 ≤ 2 := by
  obtain ⟨k, hk, e⟩ := nI_of2 (M := 2) (n := 2) (by decide) (Int32.not_lt.mpr h.1) h.2
  unfold l6
  rw [e]
  obtain rfl | rfl | rfl : k = 0 ∨ k = 1 ∨ k = 2 := by omega
  all_goals (split <;> decide)
theorem DayP.cg {dp dd dp' dd' : Nat → Int32} {d nd i : Nat} {rho nine v3 v4 v5 v6 v7 w3 w4 w5 w6 w7 : Int32} (h : DayP dp dd d nd i rho nine v3 v4 v5 v6 v7 w3 w4 w5 w6 w7) (e : ∀ k, k < nd → dp k = dp' k ∧ dd k = dd' k) : DayP dp' dd' d nd i rho nine v3 v4 v5 v6 v7 w3 w4 w5 w6 w7 := by
  have hh : hit dp dd d nd i ↔ hit dp' dd' d nd i := by
    constructor
    · rintro ⟨g, g1, g2, g3⟩
      exact ⟨g, g1, by rw [← (e g g1).1]; exact g2, by rw [← (e g g1).2]; exact g3⟩
    · rintro ⟨g, g1, g2, g3⟩
      exact ⟨g, g1, by rw [(e g g1).1]; exact g2, by rw [(e g g1).2]; exact g3⟩
  obtain ⟨t, t1, t2, t3⟩ := h
  exact ⟨t, fun q => t1 (hh.mpr q), fun q => t2 (fun z => q (hh.mp z)), t3⟩
theorem goal_loc {M M' : px_M} {d r a : Nat} (hW : WI sh M L R nw wa ch ly) (hV : VI M nw d r a nd) (h : ∀ c j, (c < 73 ∨ 219 ≤ c) → M' c j = M c j) : f_X9_isGoalMet sh M' R = f_X9_isGoalMet sh M R := by
  have e14 : M' 14 = M 14 := funext fun j => h 14 j (by omega)
  unfold f_X9_isGoalMet f_X9_hasWorld f_X10_aheadOn f_X10_angleOn
  rw [e14]
  rcases hV.2.2.1.2 with e | ⟨g, hg, e⟩
  · rw [e, hV.2.1.1, e_within, bI_f (fun z => absurd z.1 (by decide)), bd1_e, ok_t zb0, bd1_e, if_pos rfl, bd1_e, if_pos rfl]
  · obtain ⟨⟨k1, k2, k3⟩, -⟩ := hW.2.2.1 g hg
    have hnw := hW.1
    have ew : M' (wa g) = M (wa g) := funext fun j => h _ j (by omega)
    simp only [e, nm_u, nI_clamp (show g < 2 ^ 31 by omega), k1, bd1_e, ew]
theorem j_day (hS : SR sh R) {d r a : Nat} {Mc Mr : px_M} (hJ : JI sh L R A B n tx Lr np nf nw nd pa fp wa ch ly d r a (mix Mc Mr)) (hd : d < 2000) :
    ∃ Mc' Mr' r' a', f_X9_flyDay sh Mc R A = some Mc' ∧ f_X12_flyDay Mr = some Mr' ∧ JI sh L R A B n tx Lr np nf nw nd pa fp wa ch ly (d + 1) r' a' (mix Mc' Mr') ∧ (∀ c j, 73 ≤ c → c ≤ 218 → Mc' c j = Mc c j) ∧ (∀ c j, (c < 73 ∨ 219 ≤ c) → Mr' c j = Mr c j) ∧ kp sh [2, 3] (mix Mc Mr) (mix Mc' Mr') ∧ Mr' 73 0 = Mr 73 0 := by
  obtain ⟨hA, hW, hV, hD, hC, hU⟩ := hJ
  obtain ⟨Mx, eMx⟩ : ∃ Mx, Mx = mix Mc Mr := ⟨_, rfl⟩
  rw [← eMx] at hA hW hV hD hC hU ⊢
  have xc : ∀ c j, (c < 73 ∨ 219 ≤ c) → Mc c j = Mx c j := fun c j h => by rw [eMx, mix_c h]
  have xr : ∀ c j, 73 ≤ c → c ≤ 218 → Mr c j = Mx c j := fun c j h1 h2 => by rw [eMx, mix_r h1 h2]
  have hAr : (A = 22 ∨ A = 68) := by have := hU.1; omega
  have hAs : sh A = some (7, 0) := by
    rcases hAr with rfl | rfl
    · exact sc_22 hS
    · exact sc_68 hS
  obtain ⟨h, k, k1, k2, k3, k4⟩ := j_rule hS hA hW hV hU
  obtain ⟨Mc1, g1, g2, g3⟩ := k3 Mc xc
  obtain ⟨Mr1, g4, g5, g6, g7⟩ := k4 Mr (fun c j h1 h2 _ => xr c j h1 h2)
  obtain ⟨s, hs, es⟩ := cl20_r (sY Mx pa np 3 / 100)
  have es' : vStr Mx pa np = nI s := es
  obtain ⟨p1, p2, p3, p4⟩ := hA.pac
  have hp220 : ∀ i, i < np → 220 ≤ pa i := fun i hi => (p3 i hi).2.2
  have c1x : ∀ c j, (c < 73 ∨ 219 ≤ c) → c ≠ 19 → c ≠ A + 4 → Mc1 c j = Mx c j := fun c j h1 h2 h3 => by rw [g2 c j h2 h3, xc c j h1]
  have r1x : ∀ c j, 73 ≤ c → c ≤ 218 → ¬ (c = 73 ∧ 77 ≤ j ∧ j ≤ 85) → Mr1 c j = Mx c j := fun c j h1 h2 h3 => by rw [g7 c j h3, xr c j h1 h2]
  obtain ⟨v1, v2, v3, v4, v5⟩ := hV
  obtain ⟨y1, y2, y3, y4, y5, y6, y7, y8, y9, y10⟩ := v2
  have hPc1 : PaC sh Mc1 R np pa := ⟨p1, by rw [c1x 6 1 (by omega) (by omega) (by omega)]; exact p2, p3, p4⟩
  have hPc : PaC sh Mc R np pa := ⟨p1, by rw [xc 6 1 (by omega)]; exact p2, p3, p4⟩
  have c1p : ∀ i, i < np → ∀ j, Mc1 (pa i) j = Mx (pa i) j := fun i hi j => by
    have := hp220 i hi
    exact c1x _ j (by omega) (by omega) (by omega)
  have hstc : f_X8_strength sh Mc R = some (nI s) := by
    rw [c_strengthP hPc, vStr_c (M := Mx) (fun i hi j => xc _ j (by have := hp220 i hi; omega)), es']
  have hstr : f_X12_strength Mr = some (nI s) := by
    rw [← es']
    exact m_str_loc hA fun c j h1 h2 _ => xr c j h1 h2
  have hD1 : ∀ k, k < nd → ∃ p, p < np ∧ Mc1 16 k = nI p := fun k hk => by
    obtain ⟨p, q1, q2⟩ := hD k hk
    exact ⟨p, q1, by rw [c1x 16 k (by omega) (by omega) (by omega)]; exact q2⟩
  have hD2 : ∀ k, k < nd → ∃ p, p < np ∧ Mr1 179 k = nI p := fun k hk => by
    obtain ⟨p, q1, q2⟩ := hD k hk
    exact ⟨p, q1, by rw [r1x 179 k (by omega) (by omega) (by omega), ← (v4 k hk).1]; exact q2⟩
  have pan : ∀ i, i < np → PanI sh Mx R pa i := hA.2.2.1
  have h6c : ∀ i, i < np → 0 ≤ Mc1 (pa i) 6 ∧ Mc1 (pa i) 6 ≤ 2 := fun i hi => by
    rw [c1p i hi, (pan i hi).2.1.2.2.2.2.2.2.1]
    exact hC i hi
  obtain ⟨Mc', a1, ⟨a2, a3, a4⟩, ⟨a5, a6, a7, a8⟩, a9, a10⟩ := c_day (M := Mc1) (s := s) (k := k) (d := d) (r := r) (a := a) (nd := nd) hPc1 hd v1.2.2.1 v1.2.2.2.1 hs k1 v1.2.2.2.2 (by rw [c1x 14 8 (by omega) (by omega) (by omega)]; exact y9) (by rw [c1x 14 0 (by omega) (by omega) (by omega)]; exact y3) (by rw [c1x 14 1 (by omega) (by omega) (by omega)]; exact y5) (by rw [c1x 14 2 (by omega) (by omega) (by omega)]; exact y7) hD1 h6c
  obtain ⟨Mr', b1, ⟨b2, b3, b4⟩, ⟨b5, b6, b7, b8⟩, b9, b10⟩ := m_day (M := Mr1) (s := s) (k := k) (d := d) (r := r) (a := a) (nd := nd) p1 hd v1.2.2.1 v1.2.2.2.1 hs k1 v1.2.2.2.2 (by rw [r1x 73 9 (by omega) (by omega) (by omega)]; exact hA.2.1.2.1) (by rw [r1x 73 41 (by omega) (by omega) (by omega)]; exact y10) (by rw [r1x 73 24 (by omega) (by omega) (by omega)]; exact y4) (by rw [r1x 73 25 (by omega) (by omega) (by omega)]; exact y6) (by rw [r1x 73 26 (by omega) (by omega) (by omega)]; exact y8) hD2
  have hc' : f_X9_flyDay sh Mc R A = some Mc' := by
    unfold f_X9_flyDay
    rw [hstc, bd1_e, ← es', g1, bd1_e]
    dsimp only
    rw [es']
    by_cases e : h = -1
    · rw [if_pos e]
      rw [k2 e] at a1
      exact a1
    · rw [if_neg e, ok_t (hk_t hAs), g3 e, bd1_e]
      exact a1
  have hr' : f_X12_flyDay Mr = some Mr' := by
    unfold f_X12_flyDay
    rw [hstr, bd1_e, g4, bd1_e, g5, g6]
    by_cases e : h = -1
    · rw [if_pos e]
      rw [k2 e] at b1
      exact b1
    · rw [if_neg e]
      exact b1
  -- frames of both
  have fc : ∀ c j, ¬ (c = 14 ∧ j < 3) → ¬ (c = 18 ∧ 4 * (d % 64) ≤ j ∧ j < 4 * (d % 64) + 4) → ¬ (3 ≤ j ∧ j ≤ 7 ∧ ∃ i, i < np ∧ c = pa i) → c ≠ 19 → c ≠ A + 4 → Mc' c j = Mc c j := fun c j q1 q2 q3 q4 q5 => by rw [a10 c j q1 q2 q3, g2 c j q4 q5]
  have frr : ∀ c j, ¬ (c = 73 ∧ (24 ≤ j ∧ j ≤ 26 ∨ 77 ≤ j ∧ j ≤ 85)) → ¬ (181 ≤ c ∧ c ≤ 184 ∧ j = d) → ¬ (82 ≤ c ∧ c ≤ 86 ∧ j < np) → Mr' c j = Mr c j := fun c j q1 q2 q3 => by rw [b10 c j (by omega) q2 q3, g7 c j (by omega)]
  obtain ⟨Nx, eNx⟩ : ∃ Nx, Nx = mix Mc' Mr' := ⟨_, rfl⟩
  have nc : ∀ c j, (c < 73 ∨ 219 ≤ c) → Nx c j = Mc' c j := fun c j h => by rw [eNx, mix_c h]
  have nr : ∀ c j, 73 ≤ c → c ≤ 218 → Nx c j = Mr' c j := fun c j h1 h2 => by rw [eNx, mix_r h1 h2]
  have ncx : ∀ c j, (c < 73 ∨ 219 ≤ c) → ¬ (c = 14 ∧ j < 3) → ¬ (c = 18 ∧ 4 * (d % 64) ≤ j ∧ j < 4 * (d % 64) + 4) → ¬ (3 ≤ j ∧ j ≤ 7 ∧ ∃ i, i < np ∧ c = pa i) → c ≠ 19 → c ≠ A + 4 → Nx c j = Mx c j := fun c j q0 q1 q2 q3 q4 q5 => by rw [nc c j q0, fc c j q1 q2 q3 q4 q5, xc c j q0]
  have nrx : ∀ c j, 73 ≤ c → c ≤ 218 → ¬ (c = 73 ∧ (24 ≤ j ∧ j ≤ 26 ∨ 77 ≤ j ∧ j ≤ 85)) → ¬ (181 ≤ c ∧ c ≤ 184 ∧ j = d) → ¬ (82 ≤ c ∧ c ≤ 86 ∧ j < np) → Nx c j = Mx c j := fun c j h1 h2 q1 q2 q3 => by rw [nr c j h1 h2, frr c j q1 q2 q3, xr c j h1 h2]
  have nop : ∀ c j, c < 220 → ¬ (3 ≤ j ∧ j ≤ 7 ∧ ∃ i, i < np ∧ c = pa i) := fun c j hc ⟨_, _, i, i1, i2⟩ => by have := hp220 i i1; omega
  have npj : ∀ i j, i < np → ¬ (3 ≤ j ∧ j ≤ 7) → Nx (pa i) j = Mx (pa i) j := fun i j hi hj => by
    have := hp220 i hi
    exact ncx _ j (by omega) (by omega) (by omega) (fun z => hj ⟨z.1, z.2.1⟩) (by omega) (by omega)
  -- a panel's day, both
  have day : ∀ i, i < np → (Nx (pa i) 3 = Nx 82 i ∧ Nx (pa i) 4 = Nx 83 i ∧ Nx (pa i) 5 = Nx 86 i ∧ Nx (pa i) 6 = Nx 84 i ∧ Nx (pa i) 7 = Nx 85 i) ∧ zb (Nx 86 i) = true ∧ 0 ≤ Nx 84 i ∧ Nx 84 i ≤ 2 := by
    intro i hi
    have h220 := hp220 i hi
    obtain ⟨-, ⟨-, -, -, e3, e4, e5, e6, e7⟩, ez, -⟩ := pan i hi
    have dc := a9 i hi
    have dr := b9 i hi
    rw [c1p i hi, c1p i hi, c1p i hi, c1p i hi, c1p i hi, e3, e4, e5, e6, e7] at dc
    rw [r1x 82 i (by omega) (by omega) (by omega), r1x 83 i (by omega) (by omega) (by omega), r1x 86 i (by omega) (by omega) (by omega), r1x 84 i (by omega) (by omega) (by omega), r1x 85 i (by omega) (by omega) (by omega)] at dr
    have dc' := dc.cg (dp' := Mr1 179) (dd' := Mr1 180) (fun k hk => ⟨by rw [c1x 16 k (by omega) (by omega) (by omega), r1x 179 k (by omega) (by omega) (by omega)]; exact (v4 k hk).1, by rw [c1x 17 k (by omega) (by omega) (by omega), r1x 180 k (by omega) (by omega) (by omega)]; exact (v4 k hk).2⟩)
    obtain ⟨q3, q4, q5, q6, q7⟩ := dc'.uniq dr
    rw [nc (pa i) 3 (by omega), nc (pa i) 4 (by omega), nc (pa i) 5 (by omega), nc (pa i) 6 (by omega), nc (pa i) 7 (by omega), nr 82 i (by omega) (by omega), nr 83 i (by omega) (by omega), nr 84 i (by omega) (by omega), nr 85 i (by omega) (by omega), nr 86 i (by omega) (by omega)]
    refine ⟨⟨q3, q4, q5, q6, q7⟩, ?_⟩
    obtain ⟨t, t1, t2, w5, w1, w2⟩ := dr
    have ht : zb t = true := by
      by_cases q : hit (Mr1 179) (Mr1 180) d nd i
      · rw [t1 q]; rfl
      · rw [t2 q]; exact ez
    refine ⟨by rw [w5]; exact ht, ?_⟩
    by_cases q : t = 0
    · rw [(w1 q).2.2.1]; exact l6_r (hC i hi)
    · rw [(w2 q).2.2.1]; exact hC i hi
  have hkp : kp sh [2, 3] Mx Nx := by
    intro c j hn
    have n0 : ¬ md sh c j = 0 := fun z => hn (by rw [z]; exact List.mem_cons_self)
    have n2 : ¬ md sh c j = 2 := fun z => hn (by rw [z]; exact List.mem_cons_of_mem _ List.mem_cons_self)
    have n3 : ¬ md sh c j = 3 := fun z => hn (by rw [z]; exact List.mem_cons_of_mem _ (List.mem_cons_of_mem _ List.mem_cons_self))
    by_cases q : 73 ≤ c ∧ c ≤ 218
    · refine nrx c j q.1 q.2 ?_ ?_ ?_
      · rintro ⟨rfl, z⟩
        rcases z with z | z
        · apply n3
          show mdf j = 3
          obtain rfl | rfl | rfl : j = 24 ∨ j = 25 ∨ j = 26 := by omega
          all_goals rfl
        · apply n0
          show mdf j = 0
          unfold mdf
          rw [if_neg (by omega), if_neg (by omega), if_neg (by omega), if_neg (by omega), if_neg (by omega), if_neg (by omega), if_neg (by omega), if_neg (by omega), if_neg (by omega), if_neg (by omega), if_neg (by omega), if_neg (by omega), if_neg (by omega), if_neg (by omega)]
      · rintro ⟨z1, z2, -⟩
        apply n3
        obtain rfl | rfl | rfl | rfl : c = 181 ∨ c = 182 ∨ c = 183 ∨ c = 184 := by omega
        all_goals rfl
      · rintro ⟨z1, z2, -⟩
        apply n2
        obtain rfl | rfl | rfl | rfl | rfl : c = 82 ∨ c = 83 ∨ c = 84 ∨ c = 85 ∨ c = 86 := by omega
        all_goals rfl
    · refine ncx c j (by omega) ?_ ?_ ?_ ?_ ?_
      · rintro ⟨rfl, -⟩; exact n3 rfl
      · rintro ⟨rfl, -⟩; exact n3 rfl
      · rintro ⟨-, -, i, i1, rfl⟩; exact n2 (hA.m5 i1 j)
      · rintro rfl; exact n0 rfl
      · rintro rfl
        rcases hAr with rfl | rfl <;> exact n0 rfl
  refine ⟨Mc', Mr', rho' s r k, (a + trn r) % 72, hc', hr', ?_⟩
  rw [← eNx]
  refine ⟨⟨?_, ?_, ?_, fun k hk => ?_, fun i hi => (day i hi).2.2, hU.fr (hkp.sm (by decide)) (fun _ _ _ => rfl)⟩, fun c j h1 h2 => ?_, fun c j h1 => ?_, hkp, ?_⟩
  · -- the sail
    obtain ⟨s1, s2, s3, s4, s5, s6, s7, s8, s9⟩ := hA
    refine ⟨s1, ?_, fun i hi => ?_, s4, fun f hf => ?_, s6, fun i hi q => ?_, fun i hi => ?_, fun f hf => ?_⟩
    · rw [ncx 6 1 (by omega) (by omega) (by omega) (nop _ _ (by omega)) (by omega) (by omega), nrx 73 9 (by omega) (by omega) (by omega) (by omega) (by omega), ncx 6 3 (by omega) (by omega) (by omega) (nop _ _ (by omega)) (by omega) (by omega), nrx 73 10 (by omega) (by omega) (by omega) (by omega) (by omega), ncx 6 4 (by omega) (by omega) (by omega) (nop _ _ (by omega)) (by omega) (by omega), ncx 6 5 (by omega) (by omega) (by omega) (nop _ _ (by omega)) (by omega) (by omega), nrx 73 11 (by omega) (by omega) (by omega) (by omega) (by omega), nrx 73 12 (by omega) (by omega) (by omega) (by omega) (by omega)]
      exact s2
    · obtain ⟨e0, ⟨e1, e2, e3, -, -, -, -, -⟩, -, e9⟩ := s3 i hi
      obtain ⟨⟨d3, d4, d5, d6, d7⟩, dz, -⟩ := day i hi
      unfold PanI
      rw [npj i 0 hi (by omega), npj i 1 hi (by omega), npj i 2 hi (by omega), nrx 79 i (by omega) (by omega) (by omega) (by omega) (by omega), nrx 80 i (by omega) (by omega) (by omega) (by omega) (by omega), nrx 81 i (by omega) (by omega) (by omega) (by omega) (by omega)]
      exact ⟨e0, ⟨e1, e2, e3, d3, d4, d5, d6, d7⟩, dz, e9⟩
    · obtain ⟨⟨f1, f2, f3⟩, f4, f5⟩ := s5 f hf
      unfold FlapI
      rw [npj _ 8 f1 (by omega), npj _ 9 f1 (by omega), npj _ 10 f1 (by omega), nrx 87 f (by omega) (by omega) (by omega) (by omega) (by omega), nrx 88 f (by omega) (by omega) (by omega) (by omega) (by omega), nrx 89 f (by omega) (by omega) (by omega) (by omega) (by omega)]
      exact ⟨⟨f1, f2, f3⟩, f4, f5⟩
    · rw [npj i 8 hi (by omega), npj i 9 hi (by omega), npj i 10 hi (by omega)]
      exact s7 i hi q
    · rw [nrx 84 i (by omega) (by omega) (by omega) (by omega) (by omega), nrx 85 i (by omega) (by omega) (by omega) (by omega) (by omega), nrx 86 i (by omega) (by omega) (by omega) (by omega) (by omega)]
      exact s8 i hi
    · rw [nrx 88 f (by omega) (by omega) (by omega) (by omega) (by omega), nrx 89 f (by omega) (by omega) (by omega) (by omega) (by omega)]
      exact s9 f hf
  · -- the worlds
    refine hW.fr2 fun c j hc => ?_
    rcases hc with ⟨rfl, rfl⟩ | ⟨rfl, rfl⟩ | ⟨z1, z2⟩ | ⟨z1, z2⟩
    · exact ncx 14 5 (by omega) (by omega) (by omega) (nop _ _ (by omega)) (by omega) (by omega)
    · exact nrx 73 27 (by omega) (by omega) (by omega) (by omega) (by omega)
    · exact nrx c j (by omega) (by omega) (by omega) (by omega) (by omega)
    · refine ncx c j (by omega) (by omega) (by omega) ?_ (by omega) (by omega)
      rintro ⟨-, -, i, i1, rfl⟩
      rw [hA.m5 i1 j] at z2
      omega
  · -- the voyage
    have rb := rho'_b (s := s) (k := k) v1.2.2.1
    refine ⟨⟨v1.1, by omega, rb, Nat.mod_lt _ (by decide), v1.2.2.2.2⟩, ⟨?_, ?_, ?_, ?_, ?_, ?_, ?_, ?_, ?_, ?_⟩, ⟨?_, ?_⟩, fun k hk => ?_, fun e e1 e2 => ?_⟩
    · rw [ncx 14 5 (by omega) (by omega) (by omega) (nop _ _ (by omega)) (by omega) (by omega)]; exact y1
    · rw [nrx 73 27 (by omega) (by omega) (by omega) (by omega) (by omega)]; exact y2
    · rw [nc 14 0 (by omega)]; exact a2
    · rw [nr 73 24 (by omega) (by omega)]; exact b2
    · rw [nc 14 1 (by omega)]; exact a3
    · rw [nr 73 25 (by omega) (by omega)]; exact b3
    · rw [nc 14 2 (by omega)]; exact a4
    · rw [nr 73 26 (by omega) (by omega)]; exact b4
    · rw [ncx 14 8 (by omega) (by omega) (by omega) (nop _ _ (by omega)) (by omega) (by omega)]; exact y9
    · rw [nrx 73 41 (by omega) (by omega) (by omega) (by omega) (by omega)]; exact y10
    · rw [ncx 14 3 (by omega) (by omega) (by omega) (nop _ _ (by omega)) (by omega) (by omega), nrx 73 28 (by omega) (by omega) (by omega) (by omega) (by omega)]; exact v3.1
    · rw [ncx 14 3 (by omega) (by omega) (by omega) (nop _ _ (by omega)) (by omega) (by omega)]; exact v3.2
    · rw [ncx 16 k (by omega) (by omega) (by omega) (nop _ _ (by omega)) (by omega) (by omega), ncx 17 k (by omega) (by omega) (by omega) (nop _ _ (by omega)) (by omega) (by omega), nrx 179 k (by omega) (by omega) (by omega) (by omega) (by omega), nrx 180 k (by omega) (by omega) (by omega) (by omega) (by omega)]
      exact v4 k hk
    · by_cases q : e = d
      · subst q
        rw [nc 18 _ (by omega), nc 18 _ (by omega), nc 18 _ (by omega), nc 18 _ (by omega), nr 181 _ (by omega) (by omega), nr 182 _ (by omega) (by omega), nr 183 _ (by omega) (by omega), nr 184 _ (by omega) (by omega), a5, a6, a7, a8, b5, b6, b7, b8]
        exact ⟨rfl, rfl, rfl, rfl⟩
      · have hne : e % 64 ≠ d % 64 := by omega
        rw [ncx 18 _ (by omega) (by omega) (by omega) (nop _ _ (by omega)) (by omega) (by omega), ncx 18 _ (by omega) (by omega) (by omega) (nop _ _ (by omega)) (by omega) (by omega), ncx 18 _ (by omega) (by omega) (by omega) (nop _ _ (by omega)) (by omega) (by omega), ncx 18 _ (by omega) (by omega) (by omega) (nop _ _ (by omega)) (by omega) (by omega), nrx 181 _ (by omega) (by omega) (by omega) (by omega) (by omega), nrx 182 _ (by omega) (by omega) (by omega) (by omega) (by omega), nrx 183 _ (by omega) (by omega) (by omega) (by omega) (by omega), nrx 184 _ (by omega) (by omega) (by omega) (by omega) (by omega)]
        exact v5 e (by omega) (by omega)
  · obtain ⟨p, q1, q2⟩ := hD k hk
    exact ⟨p, q1, by rw [ncx 16 k (by omega) (by omega) (by omega) (nop _ _ (by omega)) (by omega) (by omega)]; exact q2⟩
  · exact fc c j (by omega) (by omega) (nop _ _ (by omega)) (by omega) (by omega)
  · exact frr c j (by omega) (by omega) (by omega)
  · exact frr 73 0 (by omega) (by omega) (by omega)
end FLY
