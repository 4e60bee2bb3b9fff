/-! the class fills its table and eliminates -/
def flN (M : px_M) (i : Nat) : List Nat := (List.range i).filter (fun k => decide (M 198 k = 0))
theorem flN_s (M : px_M) (i : Nat) : flN M (i + 1) = if M 198 i = 0 then flN M i ++ [i] else flN M i := by
  unfold flN
  rw [List.range_succ, List.filter_append]
  by_cases h : M 198 i = 0
  · rw [if_pos h]; simp [h]
  · rw [if_neg h]; simp [h]
theorem flN_len (M : px_M) (i : Nat) : (flN M i).length ≤ i := by
  have := List.length_filter_le (fun k => decide (M 198 k = 0)) (List.range i)
  rw [List.length_range] at this
  exact this
theorem lbl_app {fl : List Nat} {i : Nat} (h : i < 2 * fl.length) (k : Nat) : lbl (fl ++ [k]) i = lbl fl i := by
  unfold lbl
  rw [List.getD_eq_getElem?_getD, List.getElem?_append_left (by omega), ← List.getD_eq_getElem?_getD]
theorem lbl_new (fl : List Nat) (k : Nat) {a : Nat} (ha : a < 2) : lbl (fl ++ [k]) (2 * fl.length + a) = 2 * k + a := by
  unfold lbl
  rw [show (2 * fl.length + a) / 2 = fl.length by omega, show (2 * fl.length + a) % 2 = a by omega]
  simp
section CTAB
variable {sh : px_Sh} {M : px_M} {R : px_R} {nk nt : Nat} {dr : Option Nat} {bb : Nat → Nat}
theorem c_fillTable (hS : SR sh R) (hN : NetS M nk nt) (hP : PerR sh R bb) {st : Nat} (hst : st < 2 ^ nt) {p2 : Int32} (hp2 : (dr = none ∧ p2 = -1) ∨ ∃ s, s < nt ∧ dr = some s ∧ p2 = nI s) (L : px_L) :
    ∃ Mx L', f_X4_fillTable sh M L R (nI st) p2 = some (Mx, L') ∧ (∀ c j, ¬ (c = 40 ∧ (j = 16 ∨ j = 17)) → Mx c j = M c j) ∧ Mx 40 16 = nI (2 * (flN M nk).length) ∧ Mx 40 17 = nI (cl st).length ∧ (∀ i, i < 2 * (flN M nk).length → ∀ c, c ≤ (cl st).length → L' (bb i) c = lI (nA M nk nt dr (lbl (flN M nk) i) (kap st c))) ∧ ∀ c j, c < 49 ∨ 60 < c → L' c j = L c j := by
  have h6 := hN.1
  have hst64 : st < 64 := Nat.lt_of_lt_of_le hst (Nat.pow_le_pow_right (by decide) h6.2)
  obtain ⟨t1, -⟩ := cl_t st hst64
  have loop : ∀ (r i : Nat) (Mx : px_M) (Lx : px_L), i + r = nk → (∀ c j, ¬ (c = 40 ∧ (j = 16 ∨ j = 17)) → Mx c j = M c j) → Mx 40 16 = nI (2 * (flN M i).length) → Mx 40 17 = nI (cl st).length → (∀ j, j < 2 * (flN M i).length → ∀ c, c ≤ (cl st).length → Lx (bb j) c = lI (nA M nk nt dr (lbl (flN M i) j) (kap st c))) → (∀ c j, c < 49 ∨ 60 < c → Lx c j = L c j) →
      ∃ My Ly, lpf (fun a : Int32 × px_M × px_L => f_X4_fillTable_15 sh a.2.1 a.2.2 R (nI st) p2 a.1) (nI i, Mx, Lx) = some (My, Ly) ∧ (∀ c j, ¬ (c = 40 ∧ (j = 16 ∨ j = 17)) → My c j = M c j) ∧ My 40 16 = nI (2 * (flN M nk).length) ∧ My 40 17 = nI (cl st).length ∧ (∀ i, i < 2 * (flN M nk).length → ∀ c, c ≤ (cl st).length → Ly (bb i) c = lI (nA M nk nt dr (lbl (flN M nk) i) (kap st c))) ∧ ∀ c j, c < 49 ∨ 60 < c → Ly c j = L c j := by
    intro r
    induction r with
    | zero =>
      intro i Mx Lx hi m1 m2 m3 m4 m5
      obtain rfl : i = nk := by omega
      refine ⟨Mx, Lx, lpf_end ?_, m1, m2, m3, m4, m5⟩
      show f_X4_fillTable_15 sh Mx Lx R (nI st) p2 (nI i) = _
      unfold f_X4_fillTable_15
      rw [m1 40 5 (by omega), hN.2.1.1, if_pos (Int32.le_refl _)]
    | succ r ih =>
      intro i Mx Lx hi m1 m2 m3 m4 m5
      have hfl := flN_len M i
      have e45 : Mx 45 i = M 198 i := by rw [m1 45 i (by omega)]; exact (hN.2.2.1 i (by omega)).1.2.2.2.2
      have e5 : Mx 40 5 = nI nk := by rw [m1 40 5 (by omega)]; exact hN.2.1.1
      have hs := flN_s M i
      by_cases hf : M 198 i = 0
      · rw [if_pos hf] at hs
        have hE1 : eqN M Mx := fun c j h => m1 c j (by omega)
        obtain ⟨L1, a1, a2, a3⟩ := c_fillRow hS hN hP hE1 hst (kn := i) (ax := 0) (m := 2 * (flN M i).length) ⟨by omega, hf⟩ (by omega) (by omega) m2 m3 hp2 Lx
        obtain ⟨M1, eM1⟩ : ∃ M1, M1 = px_u Mx 40 16 (nI (2 * (flN M i).length + 1)) := ⟨_, rfl⟩
        rw [← eM1] at a1
        have q1 : ∀ c j, ¬ (c = 40 ∧ (j = 16 ∨ j = 17)) → M1 c j = M c j := fun c j h => by rw [eM1, pu_n (by omega)]; exact m1 c j h
        obtain ⟨L2, b1, b2, b3⟩ := c_fillRow hS hN hP (Mx := M1) (fun c j h => q1 c j (by omega)) hst (kn := i) (ax := 1) (m := 2 * (flN M i).length + 1) ⟨by omega, hf⟩ (by omega) (by omega) (by rw [eM1, px_u_in]) (by rw [eM1, pu_n (by omega)]; exact m3) hp2 L1
        have hb : (fun a : Int32 × px_M × px_L => f_X4_fillTable_15 sh a.2.1 a.2.2 R (nI st) p2 a.1) (nI i, Mx, Lx) = some (.inl (nI (i + 1), px_u M1 40 16 (nI (2 * (flN M i).length + 1 + 1)), L2)) := by
          show f_X4_fillTable_15 sh Mx Lx R (nI st) p2 (nI i) = _
          unfold f_X4_fillTable_15 f_X4_fillTable_48
          rw [e5, if_neg (nI_ge (show i < nk by omega) (by omega)), ok_t (ix_k (show i < 6 by omega) (by decide)), nI_clamp (show i < 2 ^ 31 by omega), e45, if_pos hf, show (0 : Int32) = nI 0 from rfl, a1, bd1_e, show (1 : Int32) = nI 1 from rfl]
          dsimp only
          rw [b1, bd1_e, show nI i + nI 1 = nI (i + 1) from nI_1 i]
        rw [lpf_go hb]
        have hlen : (flN M (i + 1)).length = (flN M i).length + 1 := by rw [hs]; simp
        have inj := hP.2
        refine ih (i + 1) _ L2 (by omega) (fun c j h => by rw [pu_n (by omega)]; exact q1 c j h) (by rw [px_u_in, hlen]; congr 1) (by rw [pu_n (by omega), eM1, pu_n (by omega)]; exact m3) (fun j hj c hc => ?_) (fun c j h => ?_)
        · rw [hlen] at hj
          rw [hs]
          by_cases e1 : j = 2 * (flN M i).length + 1
          · subst e1
            rw [b2 c hc, lbl_new _ _ (by omega)]
          · rw [b3 _ _ (fun z => e1 (inj j _ (by omega) (by omega) z))]
            by_cases e2 : j = 2 * (flN M i).length
            · subst e2
              rw [a2 c hc]
              have := lbl_new (flN M i) i (a := 0) (by omega)
              rw [Nat.add_zero] at this
              rw [this]
            · rw [a3 _ _ (fun z => e2 (inj j _ (by omega) (by omega) z)), m4 j (by omega) c hc, lbl_app (by omega)]
        · have w1 := hP.1 (2 * (flN M i).length) (by omega)
          have w2 := hP.1 (2 * (flN M i).length + 1) (by omega)
          rw [b3 c j (by omega), a3 c j (by omega)]; exact m5 c j h
      · rw [if_neg hf] at hs
        have hb : (fun a : Int32 × px_M × px_L => f_X4_fillTable_15 sh a.2.1 a.2.2 R (nI st) p2 a.1) (nI i, Mx, Lx) = some (.inl (nI (i + 1), Mx, Lx)) := by
          show f_X4_fillTable_15 sh Mx Lx R (nI st) p2 (nI i) = _
          unfold f_X4_fillTable_15 f_X4_fillTable_48
          rw [e5, if_neg (nI_ge (show i < nk by omega) (by omega)), ok_t (ix_k (show i < 6 by omega) (by decide)), nI_clamp (show i < 2 ^ 31 by omega), e45, if_neg hf, nI_1]
        rw [lpf_go hb]
        exact ih (i + 1) Mx Lx (by omega) m1 (by rw [hs]; exact m2) m3 (by rw [hs]; exact m4) m5
  obtain ⟨My, Ly, g1, g2⟩ := loop nk 0 (px_u (px_u M 40 16 0) 40 17 (nI (cl st).length)) L (by omega) (fun c j h => by rw [pu_n (by omega), pu_n (by omega)]) (by rw [pu_n (by omega), px_u_in]; rfl) (px_u_in _ _ _ _) (fun j hj => absurd hj (by simp [flN])) (fun _ _ _ => rfl)
  refine ⟨My, Ly, ?_, g2⟩
  unfold f_X4_fillTable
  rw [nm_u, t1, bd1_e, nm_u, show ((0, px_u (px_u M 40 16 0) 40 17 (nI (cl st).length), L) : Int32 × px_M × px_L) = (nI 0, px_u (px_u M 40 16 0) 40 17 (nI (cl st).length), L) from rfl, g1, bd1_e]
end CTAB
/-! pivots as the class takes them -/
def Px (lb : Nat → Nat) : Nat → List Nat
  | 0 => []
  | c + 1 => lb c :: Px lb c
def Sx (st : Nat) : Nat → List Nat
  | 0 => []
  | c + 1 => kap st c :: Sx st c
theorem Px_len (lb : Nat → Nat) : ∀ c, (Px lb c).length = c
  | 0 => rfl
  | c + 1 => by show (Px lb c).length + 1 = c + 1; rw [Px_len lb c]
theorem Sx_len (st : Nat) : ∀ c, (Sx st c).length = c
  | 0 => rfl
  | c + 1 => by show (Sx st c).length + 1 = c + 1; rw [Sx_len st c]
theorem Px_cg {lb lb' : Nat → Nat} : ∀ c, (∀ j, j < c → lb j = lb' j) → Px lb c = Px lb' c
  | 0, _ => rfl
  | c + 1, h => by
    show lb c :: Px lb c = lb' c :: Px lb' c
    rw [h c (by omega), Px_cg c fun j hj => h j (by omega)]
theorem Px_mem {lb : Nat → Nat} {x : Nat} : ∀ c, x ∈ Px lb c → ∃ j, j < c ∧ x = lb j
  | 0, h => absurd h (by simp [Px])
  | c + 1, h => by
    rcases List.mem_cons.mp h with e | h
    · exact ⟨c, by omega, e⟩
    · obtain ⟨j, h1, h2⟩ := Px_mem c h
      exact ⟨j, by omega, h2⟩
theorem Sx_mem {st x : Nat} : ∀ c, x ∈ Sx st c → ∃ j, j < c ∧ x = kap st j
  | 0, h => absurd h (by simp [Sx])
  | c + 1, h => by
    rcases List.mem_cons.mp h with e | h
    · exact ⟨c, by omega, e⟩
    · obtain ⟨j, h1, h2⟩ := Sx_mem c h
      exact ⟨j, by omega, h2⟩
theorem Px_nd {lb : Nat → Nat} {m : Nat} (hi : ∀ i j, i < m → j < m → lb i = lb j → i = j) : ∀ c, c ≤ m → (Px lb c).Nodup
  | 0, _ => List.nodup_nil
  | c + 1, h => by
    refine List.nodup_cons.mpr ⟨fun hm => ?_, Px_nd hi c (by omega)⟩
    obtain ⟨j, j1, j2⟩ := Px_mem c hm
    have := hi c j (by omega) (by omega) j2
    omega
theorem Px_nd1 {lb : Nat → Nat} {m : Nat} (hi : ∀ i j, i < m → j < m → lb i = lb j → i = j) {c i : Nat} (h1 : c ≤ i) (h2 : i < m) : (lb i :: Px lb c).Nodup := by
  refine List.nodup_cons.mpr ⟨fun hm => ?_, Px_nd hi c (by omega)⟩
  obtain ⟨j, j1, j2⟩ := Px_mem c hm
  have := hi i j (by omega) (by omega) j2
  omega
theorem Sx_6 {st : Nat} (hst : st < 64) {c : Nat} (hc : c ≤ (cl st).length) : ∀ s, s ∈ Sx st c → s < 6 := by
  intro s hs
  obtain ⟨j, h1, rfl⟩ := Sx_mem c hs
  exact ((cl_t st hst).2.2.2 j (by omega)).1
/-- an entry of the table when c columns are through -/
def Te (A : Nat → Nat → Int) (st : Nat) (lb : Nat → Nat) (c i k : Nat) : Int := if i < c then Uj A (Sx st c) (Px lb c) (c - 1 - i) (kap st k) else dt A (kap st k :: Sx st c) (lb i :: Px lb c)
section TE
variable {A : Nat → Nat → Int} {st m : Nat} {lb : Nat → Nat}
theorem Te_b (hk : ∀ k, k < 6 → Spa A k) (h6 : ∀ x, (A x 6).natAbs ≤ 100) (hst : st < 64) (hi : ∀ i j, i < m → j < m → lb i = lb j → i = j) {c i k : Nat} (hc : c ≤ 5) (hcn : c ≤ (cl st).length) (hcm : c ≤ m) (him : i < m) (hk2 : k ≤ (cl st).length) : (Te A st lb c i k).natAbs ≤ 4680000000 ∧ (k < (cl st).length → (Te A st lb c i k).natAbs ≤ 312000000) := by
  have hS6 := Sx_6 hst hcn
  have kap6 : kap st (cl st).length = 6 := by unfold kap; simp
  have hb5 := bnd_5 hc
  have hb6 := bnd_le (m := c + 1) (by omega)
  unfold Te
  by_cases e : i < c
  · rw [if_pos e]
    unfold Uj
    have hsg : ((-1 : Int) ^ (c - 1 - i) * dt A (kap st k :: (Sx st c).eraseIdx (c - 1 - i)) (Px lb c)).natAbs = (dt A (kap st k :: (Sx st c).eraseIdx (c - 1 - i)) (Px lb c)).natAbs := by
      rw [Int.natAbs_mul, Int.natAbs_pow]
      simp
    rw [hsg]
    have hel : ((Sx st c).eraseIdx (c - 1 - i)).length = c - 1 := by
      rw [List.length_eraseIdx, Sx_len, if_pos (by omega)]
    have he6 : ∀ s, s ∈ (Sx st c).eraseIdx (c - 1 - i) → s < 6 := fun s hs => hS6 s (List.mem_of_mem_eraseIdx hs)
    have hnd := Px_nd hi c hcm
    by_cases ek : k = (cl st).length
    · subst ek
      rw [kap6]
      have h1 := dt_rhs hk h6 (m := c - 1) (by omega) hel he6 (by rw [Px_len]; omega) hnd
      have h2 := bnd_5 (m := c - 1) (by omega)
      have h3 : (c - 1 + 1) * (100 * bnd (c - 1)) ≤ 6 * (100 * 7800000) := Nat.mul_le_mul (by omega) (Nat.mul_le_mul (Nat.le_refl _) h2)
      exact ⟨by omega, fun h => absurd h (by omega)⟩
    · have hkk := ((cl_t st hst).2.2.2 k (by omega)).1
      have h1 := dt_bd hk c (kap st k :: (Sx st c).eraseIdx (c - 1 - i)) (Px lb c) (by omega) (by rw [List.length_cons, hel]; omega) (fun s hs => by
        rcases List.mem_cons.mp hs with rfl | hs
        · exact hkk
        · exact he6 s hs) (Px_len lb c) hnd
      exact ⟨by omega, fun _ => by omega⟩
  · rw [if_neg e]
    have hnd := Px_nd1 hi (c := c) (i := i) (by omega) him
    by_cases ek : k = (cl st).length
    · subst ek
      rw [kap6]
      have h1 := dt_rhs hk h6 (m := c) (by omega) (Sx_len st c) hS6 (by rw [List.length_cons, Px_len]) hnd
      have h3 : (c + 1) * (100 * bnd c) ≤ 6 * (100 * 7800000) := Nat.mul_le_mul (by omega) (Nat.mul_le_mul (Nat.le_refl _) hb5)
      exact ⟨by omega, fun h => absurd h (by omega)⟩
    · have hkk := ((cl_t st hst).2.2.2 k (by omega)).1
      have h1 := dt_bd hk (c + 1) (kap st k :: Sx st c) (lb i :: Px lb c) (by omega) (by rw [List.length_cons, Sx_len]) (fun s hs => by
        rcases List.mem_cons.mp hs with rfl | hs
        · exact hkk
        · exact hS6 s hs) (by rw [List.length_cons, Px_len]) hnd
      exact ⟨by omega, fun _ => by omega⟩
/-- one column more -/
theorem Te_step {c : Nat} (hp : PC A (Px lb c) (Sx st c)) (hL : Te A st lb c c c ≠ 0) : PC A (Px lb (c + 1)) (Sx st (c + 1)) ∧ (∀ k, Te A st lb (c + 1) c k = Te A st lb c c k) ∧ ∀ i k, i ≠ c → dt A (Sx st c) (Px lb c) * Te A st lb (c + 1) i k = Te A st lb c c c * Te A st lb c i k - Te A st lb c i c * Te A st lb c c k := by
  have hW : ∀ i k, c ≤ i → Te A st lb c i k = dt A (kap st k :: Sx st c) (lb i :: Px lb c) := fun i k h => if_neg (by omega)
  rw [hW c c (Nat.le_refl _)] at hL
  refine ⟨⟨hp, hL⟩, fun k => ?_, fun i k hi => ?_⟩
  · rw [hW c k (Nat.le_refl _)]
    unfold Te
    rw [if_pos (by omega), show c + 1 - 1 - c = 0 by omega]
    exact U_new A (Sx st c) (Px lb c) (lb c) (kap st c) (kap st k)
  · rw [hW c c (Nat.le_refl _), hW c k (Nat.le_refl _)]
    by_cases e : i < c
    · unfold Te
      rw [if_pos (show i < c + 1 by omega), if_pos e, if_pos e, show c + 1 - 1 - i = (c - 1 - i) + 1 by omega]
      exact st_u A hp hL (j := c - 1 - i) (by rw [Sx_len]; omega) (kap st k)
    · rw [hW i k (by omega), hW i c (by omega)]
      unfold Te
      rw [if_neg (by omega)]
      exact st_w A hp hL (lb i) (kap st k)
end TE
