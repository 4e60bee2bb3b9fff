/-! the net's matrix; the class writes its table -/
def cl (st : Nat) : List Nat := (List.range 6).filter (fun s => st.testBit s)
def cN (st : Nat) : Nat → Nat
  | 0 => 0
  | s + 1 => cN st s + (if st.testBit s = true then 1 else 0)
def kap (st c : Nat) : Nat := (cl st).getD c 6
theorem cl_t : ∀ st, st < 64 → f_J6_bitCount_0f7a4 (nI st) = some (nI (cl st).length) ∧ (cl st).length ≤ 6 ∧ (∀ s, s < 6 → st.testBit s = true → (cl st).getD (cN st s) 6 = s ∧ cN st s < (cl st).length) ∧ (∀ c, c < (cl st).length → (cl st).getD c 6 < 6 ∧ st.testBit ((cl st).getD c 6) = true ∧ cN st ((cl st).getD c 6) = c) := by decide +kernel
theorem cN_le (st : Nat) : ∀ s, cN st s ≤ s
  | 0 => Nat.le_refl _
  | s + 1 => by
    have := cN_le st s
    unfold cN
    split <;> omega
theorem cN_lt {st s t : Nat} (h : s < t) (hb : st.testBit s = true) : cN st s < cN st t := by
  induction t with
  | zero => omega
  | succ t ih =>
    show cN st s < cN st t + _
    by_cases e : s = t
    · subst e; rw [if_pos hb]; omega
    · have := ih (by omega)
      split <;> omega
def wy (M : px_M) (s kn ax : Nat) : Int32 := if M 196 s = nI kn then (if ax = 0 then M 192 (M 197 s).toNatClampNeg - M 192 (M 196 s).toNatClampNeg else M 193 (M 197 s).toNatClampNeg - M 193 (M 196 s).toNatClampNeg) else if M 197 s = nI kn then -(if ax = 0 then M 192 (M 197 s).toNatClampNeg - M 192 (M 196 s).toNatClampNeg else M 193 (M 197 s).toNatClampNeg - M 193 (M 196 s).toNatClampNeg) else 0
def rh (M : px_M) (dr : Option Nat) (kn ax : Nat) : Int32 := match dr with
  | none => if ax = 0 then -(M 194 kn) else -(M 195 kn)
  | some s => -(wy M s kn ax)
def frk (M : px_M) (nk kn : Nat) : Prop := kn < nk ∧ M 198 kn = 0
noncomputable def nA (M : px_M) (nk nt : Nat) (dr : Option Nat) (x k : Nat) : Int :=
  @ite Int (frk M nk (x / 2)) (Classical.propDecidable _) (if k < nt then (wy M k (x / 2) (x % 2)).toInt else if k = 6 then (rh M dr (x / 2) (x % 2)).toInt else 0) 0
section NMAT
variable {M : px_M} {nk nt : Nat} {dr : Option Nat}
theorem nA_f {x : Nat} (h : frk M nk (x / 2)) (k : Nat) : nA M nk nt dr x k = if k < nt then (wy M k (x / 2) (x % 2)).toInt else if k = 6 then (rh M dr (x / 2) (x % 2)).toInt else 0 := by
  unfold nA
  rw [if_pos h]
theorem nA_n {x : Nat} (h : ¬ frk M nk (x / 2)) (k : Nat) : nA M nk nt dr x k = 0 := by
  unfold nA
  rw [if_neg h]
theorem i32_sub5 {a b : Int32} (ha : -5 ≤ a ∧ a ≤ 5) (hb : -5 ≤ b ∧ b ≤ 5) : (a - b).toInt.natAbs ≤ 10 ∧ (-(a - b)).toInt.natAbs ≤ 10 := by
  have h1 := Int32.le_iff_toInt_le.mp ha.1
  have h2 := Int32.le_iff_toInt_le.mp ha.2
  have h3 := Int32.le_iff_toInt_le.mp hb.1
  have h4 := Int32.le_iff_toInt_le.mp hb.2
  rw [show (-5 : Int32).toInt = -5 from rfl] at h1 h3
  rw [show (5 : Int32).toInt = 5 from rfl] at h2 h4
  have e1 : (a - b).toInt = a.toInt - b.toInt := by
    rw [Int32.toInt_sub]
    show (if (a.toInt - b.toInt) % (4294967296 : Int) < (4294967296 + 1) / 2 then (a.toInt - b.toInt) % 4294967296 else (a.toInt - b.toInt) % 4294967296 - 4294967296) = _
    split <;> omega
  have e2 : (-(a - b)).toInt = -(a - b).toInt := by
    rw [Int32.toInt_neg]
    show (if (-(a - b).toInt) % (4294967296 : Int) < (4294967296 + 1) / 2 then (-(a - b).toInt) % 4294967296 else (-(a - b).toInt) % 4294967296 - 4294967296) = _
    split <;> omega
  omega
theorem wy_b (hN : NetS M nk nt) {s : Nat} (hs : s < nt) (kn ax : Nat) : (wy M s kn ax).toInt.natAbs ≤ 10 ∧ (-(wy M s kn ax)).toInt.natAbs ≤ 10 := by
  obtain ⟨h1, h2, h3, h4⟩ := hN
  obtain ⟨-, a, b, ⟨a1, b1, -⟩, e1, e2⟩ := h4 s hs
  obtain ⟨-, k1, k2, -⟩ := h3 a a1
  obtain ⟨-, k3, k4, -⟩ := h3 b b1
  unfold wy
  rw [e1, e2, nI_clamp (show a < 2 ^ 31 by omega), nI_clamp (show b < 2 ^ 31 by omega)]
  have q1 := i32_sub5 k3 k1
  have q2 := i32_sub5 k4 k2
  have nn : ∀ x : Int32, -(-x) = x := fun _ => Int32.neg_neg
  split
  · split
    · exact q1
    · exact q2
  · split
    · split
      · exact ⟨q1.2, by rw [nn]; exact q1.1⟩
      · exact ⟨q2.2, by rw [nn]; exact q2.1⟩
    · exact ⟨by decide, by decide⟩
theorem rh_b (hN : NetS M nk nt) (hd : ∀ s, dr = some s → s < nt) {kn : Nat} (hk : kn < nk) (ax : Nat) : (rh M dr kn ax).toInt.natAbs ≤ 100 := by
  have neg100 : ∀ x : Int32, -100 ≤ x ∧ x ≤ 100 → (-x).toInt.natAbs ≤ 100 := by
    intro x hx
    have h1 := Int32.le_iff_toInt_le.mp hx.1
    have h2 := Int32.le_iff_toInt_le.mp hx.2
    rw [show (-100 : Int32).toInt = -100 from rfl] at h1
    rw [show (100 : Int32).toInt = 100 from rfl] at h2
    have e2 : (-x).toInt = -x.toInt := by
      rw [Int32.toInt_neg]
      show (if (-x.toInt) % (4294967296 : Int) < (4294967296 + 1) / 2 then (-x.toInt) % 4294967296 else (-x.toInt) % 4294967296 - 4294967296) = _
      split <;> omega
    omega
  cases dr with
  | none =>
    obtain ⟨-, -, -, k5, k6, -⟩ := hN.2.2.1 kn hk
    show (if ax = 0 then -(M 194 kn) else -(M 195 kn)).toInt.natAbs ≤ 100
    split
    · exact neg100 _ k5
    · exact neg100 _ k6
  | some s =>
    have := (wy_b hN (hd s rfl) kn ax).2
    show (-(wy M s kn ax)).toInt.natAbs ≤ 100
    omega
theorem nA_sp (hN : NetS M nk nt) {k : Nat} (hk : k < 6) : Spa (nA M nk nt dr) k := by
  by_cases h : k < nt
  · refine ⟨fun x => ?_, ?_⟩
    · by_cases f : frk M nk (x / 2)
      · rw [nA_f f, if_pos h]; exact (wy_b hN h _ _).1
      · rw [nA_n f]; decide
    · obtain ⟨-, a, b, ⟨a1, b1, -⟩, e1, e2⟩ := hN.2.2.2 k h
      refine ⟨2 * a, 2 * a + 1, 2 * b, 2 * b + 1, fun x hx => ?_⟩
      by_cases f : frk M nk (x / 2)
      · rw [nA_f f, if_pos h] at hx
        unfold wy at hx
        have h6 := hN.1.1
        have hxn := f.1
        by_cases q1 : M 196 k = nI (x / 2)
        · rw [e1] at q1
          have := (nI_eq (by omega) (by omega)).mp q1
          omega
        · rw [if_neg q1] at hx
          by_cases q2 : M 197 k = nI (x / 2)
          · rw [e2] at q2
            have := (nI_eq (by omega) (by omega)).mp q2
            omega
          · rw [if_neg q2] at hx
            exact absurd rfl hx
      · rw [nA_n f] at hx
        exact absurd rfl hx
  · refine ⟨fun x => ?_, 0, 0, 0, 0, fun x hx => ?_⟩
    · by_cases f : frk M nk (x / 2)
      · rw [nA_f f, if_neg h, if_neg (by omega)]; decide
      · rw [nA_n f]; decide
    · exfalso
      by_cases f : frk M nk (x / 2)
      · rw [nA_f f, if_neg h, if_neg (by omega)] at hx; exact hx rfl
      · rw [nA_n f] at hx; exact hx rfl
theorem nA_6 (hN : NetS M nk nt) (hd : ∀ s, dr = some s → s < nt) (x : Nat) : (nA M nk nt dr x 6).natAbs ≤ 100 := by
  by_cases f : frk M nk (x / 2)
  · have := hN.1.2
    rw [nA_f f, if_neg (by omega), if_pos rfl]; exact rh_b hN hd f.1 _
  · rw [nA_n f]; decide
end NMAT
section CFILL
variable {sh : px_Sh} {M Mx : px_M} {R : px_R} {nk nt : Nat} {dr : Option Nat} {bb : Nat → Nat}
/-- the class's cells of the net, as they stand in M -/
def eqN (M Mx : px_M) : Prop := ∀ c j, (41 ≤ c ∧ c ≤ 47) ∨ (c = 40 ∧ (j = 5 ∨ j = 8)) → Mx c j = M c j
theorem c_way (hS : SR sh R) (hN : NetS M nk nt) (hE : eqN M Mx) {s kn ax : Nat} (hs : s < nt) (hk : kn < nk) (hx : ax < 2) : f_X4_wayOf sh Mx (nI s) (nI kn) (nI ax) = some (wy M s kn ax) := by
  obtain ⟨h1, h2, h3, h4⟩ := hN
  obtain ⟨⟨g1, g2⟩, a, b, ⟨a1, b1, -⟩, e1, e2⟩ := h4 s hs
  obtain ⟨⟨k1, k2, -⟩, -⟩ := h3 a a1
  obtain ⟨⟨k3, k4, -⟩, -⟩ := h3 b b1
  have m46 : Mx 46 s = nI a := by rw [hE 46 s (by omega), g1, e1]
  have m47 : Mx 47 s = nI b := by rw [hE 47 s (by omega), g2, e2]
  have hw : ∀ z0, (z0 = 41 ∨ z0 = 42) → f_X4_wayOf_15 sh Mx (nI s) (nI kn) z0 = some (if nI a = nI kn then Mx z0 b - Mx z0 a else if nI b = nI kn then -(Mx z0 b - Mx z0 a) else 0) := by
    intro z0 hz
    have hs0 : sh z0 = some (13, 6) := by
      rcases hz with rfl | rfl
      · exact sc_41 hS
      · exact sc_42 hS
    unfold f_X4_wayOf_15 f_X4_wayOf_68
    rw [ok_t (ix_k (show s < 6 by omega) (by decide)), nI_clamp (show s < 2 ^ 31 by omega), m46, m47, nm_u, ok_t (xk_t hs0 (ix_k (show b < 6 by omega) (by decide))), ok_t (ix_k (show s < 6 by omega) (by decide)), nm_u, ok_t (xk_t hs0 (ix_k (show a < 6 by omega) (by decide))), nm_u, nI_clamp (show a < 2 ^ 31 by omega), nI_clamp (show b < 2 ^ 31 by omega), ok_t (ix_k (show s < 6 by omega) (by decide)), ok_t (ix_k (show s < 6 by omega) (by decide))]
    split
    · rfl
    · split <;> rfl
  unfold f_X4_wayOf wy
  rw [e1, e2, nI_clamp (show a < 2 ^ 31 by omega), nI_clamp (show b < 2 ^ 31 by omega)]
  obtain rfl | rfl : ax = 0 ∨ ax = 1 := by omega
  · rw [if_pos (show nI 0 = 0 from rfl), hw 41 (Or.inl rfl), hE 41 a (by omega), hE 41 b (by omega), k1, k3]
    rfl
  · rw [if_neg (show ¬ nI 1 = 0 by decide), hw 42 (Or.inr rfl), hE 42 a (by omega), hE 42 b (by omega), k2, k4]
    rfl
/-- the rows of the class's table -/
def PerR (sh : px_Sh) (R : px_R) (bb : Nat → Nat) : Prop := (∀ i, i < 12 → R 48 i = some (bb i) ∧ 49 ≤ bb i ∧ bb i ≤ 60) ∧ ∀ i j, i < 12 → j < 12 → bb i = bb j → i = j
theorem PerR.s (h : PerR sh R bb) (hS : SR sh R) {i : Nat} (hi : i < 12) : sh (bb i) = some (14, 7) := by
  obtain ⟨h1, h2, h3⟩ := h.1 i hi
  obtain e | e | e | e | e | e | e | e | e | e | e | e : bb i = 49 ∨ bb i = 50 ∨ bb i = 51 ∨ bb i = 52 ∨ bb i = 53 ∨ bb i = 54 ∨ bb i = 55 ∨ bb i = 56 ∨ bb i = 57 ∨ bb i = 58 ∨ bb i = 59 ∨ bb i = 60 := by omega
  all_goals (rw [e]; exact hS.1 _ (by decide))
def lbl (fl : List Nat) (i : Nat) : Nat := 2 * fl.getD (i / 2) 0 + i % 2
theorem c_fillRow (hS : SR sh R) (hN : NetS M nk nt) (hP : PerR sh R bb) (hE : eqN M Mx) {st : Nat} (hst : st < 2 ^ nt) {kn ax m : Nat} (hk : frk M nk kn) (hx : ax < 2) (hm : m < 12) (h16 : Mx 40 16 = nI m) (h17 : Mx 40 17 = nI (cl st).length) {p2 : Int32} (hp2 : (dr = none ∧ p2 = -1) ∨ ∃ s, s < nt ∧ dr = some s ∧ p2 = nI s) (L : px_L) :
    ∃ L', f_X4_fillRow sh Mx L R (nI st) p2 (nI kn) (nI ax) = some (px_u Mx 40 16 (nI (m + 1)), L') ∧ (∀ c, c ≤ (cl st).length → L' (bb m) c = lI (nA M nk nt dr (2 * kn + ax) (kap st c))) ∧ ∀ c j, c ≠ bb m → L' c j = L c j := by
  have h6 := hN.1
  have hst64 : st < 64 := Nat.lt_of_lt_of_le hst (Nat.pow_le_pow_right (by decide) h6.2)
  obtain ⟨t1, t2, t3, t4⟩ := cl_t st hst64
  obtain ⟨b1, b2, b3⟩ := hP.1 m hm
  have hbs := hP.s hS hm
  have hbit : ∀ s, s < 6 → st.testBit s = true → s < nt := by
    intro s hs hb
    by_cases e : s < nt
    · exact e
    · rw [Nat.testBit_lt_two_pow (Nat.lt_of_lt_of_le hst (Nat.pow_le_pow_right (by decide) (by omega)))] at hb
      exact absurd hb (by decide)
  have hxx : (2 * kn + ax) / 2 = kn ∧ (2 * kn + ax) % 2 = ax := by omega
  have e8 : Mx 40 8 = nI nt := by rw [hE 40 8 (by omega)]; exact hN.2.1.2.2.1
  have K := lpf_for (body := fun a : Int32 × Int32 × px_L => f_X4_fillRow_6 sh Mx a.2.2 R (nI st) p2 (nI kn) (nI ax) a.1 a.2.1) (fun s (L' : px_L) => (nI (cN st s), nI s, L')) (fun s L' => if st.testBit s = true then px_u L' (bb m) (cN st s) (wy M s kn ax).toInt64 else L') (fun s L' => (∀ u, u < s → st.testBit u = true → L' (bb m) (cN st u) = (wy M u kn ax).toInt64) ∧ ∀ c j, c ≠ bb m → L' c j = L c j) (fun L' => L') nt
    (fun s L' hs hP' => by
      obtain ⟨P1, P2⟩ := hP'
      refine ⟨?_, ?_⟩
      · show f_X4_fillRow_6 sh Mx L' R (nI st) p2 (nI kn) (nI ax) (nI (cN st s)) (nI s) = _
        unfold f_X4_fillRow_6 f_X4_fillRow_50
        rw [e8, if_neg (nI_ge hs (by omega)), ifi (bit_iff (show st < 2 ^ 31 by omega) (show s < 32 by omega))]
        show _ = some (Sum.inl (nI (cN st (s + 1)), nI (s + 1), _))
        rw [show cN st (s + 1) = cN st s + (if st.testBit s = true then 1 else 0) from rfl]
        by_cases hb : st.testBit s = true
        · have hc := (t3 s (by omega) hb).2
          rw [if_pos hb, if_pos hb, if_pos hb, nm_u, h16, ok_t (ix_k hm (by decide)), nI_clamp (show m < 2 ^ 31 by omega), b1, bd1_e, c_way hS hN hE hs hk.1 hx, bd1_e, nm_u, ok_t (xk_t hbs (ix_k (show cN st s < 7 by omega) (by decide))), nI_clamp (show cN st s < 2 ^ 31 by omega), nm_u, nI_1, nI_1]
        · rw [if_neg hb, if_neg hb, if_neg hb, Nat.add_zero, nI_1]
      · by_cases hb : st.testBit s = true
        · rw [if_pos hb]
          refine ⟨fun u hu hub => ?_, fun c j hc => by rw [pu_n (fun z => hc z.1)]; exact P2 c j hc⟩
          by_cases e : u = s
          · subst e; exact px_u_in _ _ _ _
          · have := cN_lt (st := st) (show u < s by omega) hub
            rw [pu_n (by omega)]; exact P1 u (by omega) hub
        · rw [if_neg hb]
          exact ⟨fun u hu hub => P1 u (by
            by_cases e : u = s
            · rw [e] at hub; exact absurd hub hb
            · omega) hub, P2⟩)
    (fun L' _ => by
      show f_X4_fillRow_6 sh Mx L' R (nI st) p2 (nI kn) (nI ax) (nI (cN st nt)) (nI nt) = _
      unfold f_X4_fillRow_6
      rw [e8, if_pos (Int32.le_refl _)]) nt 0 L (by omega) ⟨fun u hu => absurd hu (by omega), fun _ _ _ => rfl⟩
  obtain ⟨K1, K2, K3⟩ := K
  obtain ⟨L1, eL1⟩ : ∃ L1, L1 = fld (fun s (L' : px_L) => if st.testBit s = true then px_u L' (bb m) (cN st s) (wy M s kn ax).toInt64 else L') 0 nt L := ⟨_, rfl⟩
  rw [← eL1] at K1 K2 K3
  have fin : ∀ v : Int32, v = rh M dr kn ax → ∃ L', f_X4_fillRow_113 sh Mx L1 R v.toInt64 (Mx 40 17) (bb m) = some (px_u Mx 40 16 (nI (m + 1)), L') ∧ (∀ c, c ≤ (cl st).length → L' (bb m) c = lI (nA M nk nt dr (2 * kn + ax) (kap st c))) ∧ ∀ c j, c ≠ bb m → L' c j = L c j := by
    intro v hv
    unfold f_X4_fillRow_113
    rw [h17, ok_t (xk_t hbs (ix_k (show (cl st).length < 7 by omega) (by decide))), nI_clamp (show (cl st).length < 2 ^ 31 by omega), nm_u, nm_u, h16, nI_1, nm_u]
    refine ⟨_, rfl, fun c hc => ?_, fun c j hc => by rw [pu_n (fun z => hc z.1)]; exact K3 c j hc⟩
    by_cases e : c = (cl st).length
    · subst e
      rw [px_u_in, hv]
      have : kap st (cl st).length = 6 := by
        unfold kap
        simp
      rw [this, nA_f (by rw [hxx.1]; exact hk), if_neg (by omega), if_pos rfl, hxx.1, hxx.2]
      rfl
    · have hc' : c < (cl st).length := by omega
      obtain ⟨q1, q2, q3⟩ := t4 c hc'
      rw [pu_n (fun z => e z.2)]
      have hcn := K2 (kap st c) (hbit _ q1 q2) q2
      rw [show cN st (kap st c) = c from q3] at hcn
      rw [hcn, nA_f (by rw [hxx.1]; exact hk), if_pos (show kap st c < nt from hbit _ q1 q2), hxx.1, hxx.2]
      rfl
  have h43 : Mx 43 kn = M 194 kn := by rw [hE 43 kn (by omega)]; exact (hN.2.2.1 kn hk.1).1.2.2.1
  have h44 : Mx 44 kn = M 195 kn := by rw [hE 44 kn (by omega)]; exact (hN.2.2.1 kn hk.1).1.2.2.2.1
  have hkn := hk.1
  have go : ∀ z0 : Int32, (dr = none → -z0 = rh M dr kn ax) → ∃ L', f_X4_fillRow_76 sh Mx L1 R p2 (nI kn) (nI ax) z0 = some (px_u Mx 40 16 (nI (m + 1)), L') ∧ (∀ c, c ≤ (cl st).length → L' (bb m) c = lI (nA M nk nt dr (2 * kn + ax) (kap st c))) ∧ ∀ c j, c ≠ bb m → L' c j = L c j := by
    intro z0 hz0
    unfold f_X4_fillRow_76
    rw [nm_u, h16, ok_t (ix_k hm (by decide)), nI_clamp (show m < 2 ^ 31 by omega), b1, bd1_e]
    rcases hp2 with ⟨d1, d2⟩ | ⟨s, d0, d1, d2⟩
    · rw [if_pos d2]
      exact fin _ (hz0 d1)
    · rw [if_neg (by rw [d2]; exact nI_ne1 (by omega)), d2, c_way hS hN hE d0 hk.1 hx, bd1_e]
      exact fin _ (by rw [d1]; rfl)
  unfold f_X4_fillRow
  rw [show ((0, 0, L) : Int32 × Int32 × px_L) = (nI (cN st 0), nI 0, L) from rfl, K1, bd1_e, nI_clamp (show kn < 2 ^ 31 by omega), h43, h44, ok_t (ix_k (show kn < 6 by omega) (by decide)), ok_t (ix_k (show kn < 6 by omega) (by decide))]
  obtain rfl | rfl : ax = 0 ∨ ax = 1 := by omega
  · rw [if_pos (show nI 0 = 0 from rfl)]
    exact go _ (fun e => by rw [e]; rfl)
  · rw [if_neg (show ¬ nI 1 = 0 by decide)]
    exact go _ (fun e => by rw [e]; rfl)
end CFILL
