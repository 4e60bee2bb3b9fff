/-! which coats may be hidden: the class's tables -/
def scrH (M M' : px_M) : Prop := ∀ c j, c ≠ 33 → c ≠ 34 → c ≠ 35 → c ≠ 37 → c ≠ 38 → ¬ (c = 27 ∧ j = 13) → M' c j = M c j
/-- the push of panel i at a slant, if it had the coat c -/
def pC (M : px_M) (pa : Nat → Nat) (s : Int32) (i c : Nat) : Int32 := if M (pa i) 5 = 0 then vpx (M (pa i) 2) (cl8 (s + M (pa i) 6 + M (pa i) 9)) (M 185 c) (M 186 c) else 0
theorem scrH.sm {sh : px_Sh} {M M' : px_M} (h : scrH M M') : sm_ sh 2 M M' := fun c j e => h c j (fun x => by rw [x] at e; exact absurd (show (0 : Nat) = 2 from e) (by decide)) (fun x => by rw [x] at e; exact absurd (show (0 : Nat) = 2 from e) (by decide)) (fun x => by rw [x] at e; exact absurd (show (0 : Nat) = 2 from e) (by decide)) (fun x => by rw [x] at e; exact absurd (show (0 : Nat) = 2 from e) (by decide)) (fun x => by rw [x] at e; exact absurd (show (0 : Nat) = 2 from e) (by decide)) (fun x => by rw [x.1] at e; exact absurd (show (5 : Nat) = 2 from e) (by decide))
section FITS
variable {sh : px_Sh} {M M' : px_M} {R : px_R} {np nf nc ns m : Nat} {pa fp : Nat → Nat}
def HideI (M : px_M) (nc ns : Nat) : Prop := (nc ≤ 5 ∧ ns ≤ 6) ∧ (M 27 2 = nI nc ∧ M 73 48 = nI nc ∧ M 27 6 = nI ns ∧ M 73 49 = nI ns) ∧ (∀ i, i < nc → M 28 i = M 185 i ∧ M 29 i = M 186 i ∧ (0 ≤ M 185 i ∧ M 185 i ≤ 100) ∧ (0 ≤ M 186 i ∧ M 186 i ≤ 100) ∧ M 185 i + M 186 i ≤ 100) ∧ (∀ i, i < ns → M 30 i = M 187 i ∧ M 31 i = M 188 i ∧ M 32 i = M 189 i ∧ -8 ≤ M 187 i ∧ M 187 i ≤ 8) ∧ ∀ i, M 36 i = 0
theorem Ihide.of {M : px_M} (h : Ihide M) : ∃ nc ns, HideI M nc ns := h
theorem sl_8 {s : Int32} (h : -8 ≤ s ∧ s ≤ 8) : ∃ e, e < 17 ∧ s = nI e - 8 := by
  obtain ⟨k, k1, k2⟩ := cl8_r s
  refine ⟨k, k1, ?_⟩
  rw [← k2]
  unfold cl8
  rw [if_pos h.1, if_pos h.2]
theorem sl_add (e : Nat) : nI e - 8 + 8 = nI e := by grind
/-- what tableShares leaves at the slant e - 8 -/
def ShI (M M' : px_M) (pa : Nat → Nat) (np m nc e : Nat) : Prop := M' 33 e = sX M pa m np (nI e - 8) ∧ ∀ i c, i < m → c < nc → M' 34 ((e * 4 + i) * 5 + c) = pC M pa (nI e - 8) i c
theorem c_tableShares (h : SailI sh M R np nf pa fp) (hH : HideI M nc ns) (hm : m ≤ 4) (hmp : m ≤ np) (hs0 : scrH M M') (h13 : M' 27 13 = 0) : ∃ M2, f_X3_tableShares sh M' R (nI m) = some M2 ∧ scrH M M2 ∧ M2 27 13 = 0 ∧ ∀ e, e < 17 → ShI M M2 pa np m nc e := by
  have h16 := h.1.1
  obtain ⟨⟨n5, n6⟩, hn, hco, -, -⟩ := hH
  -- one panel at one slant
  have hin : ∀ (e i : Nat) (M1 : px_M), e < 17 → i < m → scrH M M1 → ∃ M2, lpf (fun a : Int32 × px_M => f_X3_tableShares_36 sh a.2 R (nI m) (nI e - 8) (nI i) a.1) (0, M1) = some M2 ∧ (∀ c, c < nc → M2 34 ((e * 4 + i) * 5 + c) = pC M pa (nI e - 8) i c) ∧ ∀ a j, ¬ (a = 34 ∧ (e * 4 + i) * 5 ≤ j ∧ j < (e * 4 + i) * 5 + 5) → M2 a j = M1 a j := by
    intro e i M1 he hi hs1
    have K := lpf_for (body := fun a : Int32 × px_M => f_X3_tableShares_36 sh a.2 R (nI m) (nI e - 8) (nI i) a.1) (fun c (M' : px_M) => (nI c, M')) (fun c M' => px_u M' 34 ((e * 4 + i) * 5 + c) (pC M pa (nI e - 8) i c))
      (fun k M' => (∀ a j, ¬ (a = 34 ∧ (e * 4 + i) * 5 ≤ j ∧ j < (e * 4 + i) * 5 + 5) → M' a j = M1 a j) ∧ ∀ c, c < k → M' 34 ((e * 4 + i) * 5 + c) = pC M pa (nI e - 8) i c) (fun M' => M') nc
      (fun c Mx hc hP => by
        obtain ⟨p1, p2⟩ := hP
        have hsx : scrH M Mx := fun a j a1 a2 a3 a4 a5 a6 => by rw [p1 a j (by omega)]; exact hs1 a j a1 a2 a3 a4 a5 a6
        have hx : SailI sh Mx R np nf pa fp := h.fr hsx.sm (fun _ => ⟨rfl, rfl⟩) (fun _ q => q)
        have hp := (hx.2.2.1 i (by omega)).1
        have hv : ∀ a j, a = 28 ∨ a = 29 → Mx a j = M a j := fun a j ha => hsx a j (by omega) (by omega) (by omega) (by omega) (by omega) (by omega)
        refine ⟨?_, fun a j q => by rw [pu_n (by omega)]; exact p1 a j q, fun g hg => ?_⟩
        · show f_X3_tableShares_36 sh Mx R (nI m) (nI e - 8) (nI i) (nI c) = _
          have t1 : (nI e - 8 + 8) * 4 + nI i = nI (e * 4 + i) := by rw [sl_add, show (4 : Int32) = nI 4 from rfl, pk_mul, nI_add]
          have t2 : nI (e * 4 + i) * 5 + nI c = nI ((e * 4 + i) * 5 + c) := by rw [show (5 : Int32) = nI 5 from rfl, pk_mul, nI_add]
          unfold f_X3_tableShares_36 f_X3_shareAt
          rw [hsx 27 2 (by decide) (by decide) (by decide) (by decide) (by decide) (by omega), hn.1, if_neg (nI_ge hc (by omega)), bd1_e, t1, t2, ok_t (ix_k (show i < 16 by omega) (by decide)), nI_clamp (by omega), hp.1, bd1_e, ok_t (ix_k (show c < 5 by omega) (by decide)), ok_t (ix_k (show c < 5 by omega) (by decide)), ok_t (hk_t hp.2.1), nI_clamp (by omega), hv 28 c (Or.inl rfl), hv 29 c (Or.inr rfl), (hco c hc).1, (hco c hc).2.1, e_pushX5 (hk_t hp.2.1), bd1_e, ok_t (ix_k (show (e * 4 + i) * 5 + c < 340 by omega) (by decide)), nm_u, nI_clamp (by omega), nI_1]
          unfold pC
          rw [hsx.sm _ 5 (h.m5 (show i < np by omega) 5), hsx.sm _ 2 (h.m5 (show i < np by omega) 2), hsx.sm _ 6 (h.m5 (show i < np by omega) 6), hsx.sm _ 9 (h.m5 (show i < np by omega) 9)]
        · by_cases e2 : g = c
          · subst e2; exact px_u_in _ _ _ _
          · rw [pu_n (by omega)]; exact p2 g (by omega))
      (fun Mx hP => by
        show f_X3_tableShares_36 sh Mx R (nI m) (nI e - 8) (nI i) (nI nc) = _
        unfold f_X3_tableShares_36
        rw [hP.1 27 2 (by omega), hs1 27 2 (by decide) (by decide) (by decide) (by decide) (by decide) (by omega), hn.1, if_pos (Int32.le_refl _)]) nc 0 M1 (by omega) ⟨fun _ _ _ => rfl, fun c hc => absurd hc (by omega)⟩
    exact ⟨_, K.1, K.2.2, K.2.1⟩
  have hmid : ∀ (e : Nat) (M1 : px_M), e < 17 → scrH M M1 → ∃ M2, lpf (fun a : Int32 × px_M => f_X3_tableShares_27 sh a.2 R (nI m) (nI e - 8) a.1) (0, M1) = some M2 ∧ (∀ i c, i < m → c < nc → M2 34 ((e * 4 + i) * 5 + c) = pC M pa (nI e - 8) i c) ∧ ∀ a j, ¬ (a = 34 ∧ e * 20 ≤ j ∧ j < e * 20 + 20) → M2 a j = M1 a j := by
    intro e M1 he hs1
    have hl : ∀ (k i : Nat) (Mx : px_M), i + k = m → (∀ a j, ¬ (a = 34 ∧ e * 20 ≤ j ∧ j < e * 20 + 20) → Mx a j = M1 a j) → (∀ g c, g < i → c < nc → Mx 34 ((e * 4 + g) * 5 + c) = pC M pa (nI e - 8) g c) → ∃ M2, lpf (fun a : Int32 × px_M => f_X3_tableShares_27 sh a.2 R (nI m) (nI e - 8) a.1) (nI i, Mx) = some M2 ∧ (∀ i c, i < m → c < nc → M2 34 ((e * 4 + i) * 5 + c) = pC M pa (nI e - 8) i c) ∧ ∀ a j, ¬ (a = 34 ∧ e * 20 ≤ j ∧ j < e * 20 + 20) → M2 a j = M1 a j := by
      intro k
      induction k with
      | zero =>
        intro i Mx hi q1 q2
        obtain rfl : i = m := by omega
        refine ⟨Mx, lpf_end ?_, q2, q1⟩
        show f_X3_tableShares_27 sh Mx R (nI i) (nI e - 8) (nI i) = _
        unfold f_X3_tableShares_27
        rw [if_pos (Int32.le_refl _)]
      | succ k ih =>
        intro i Mx hi q1 q2
        have hsx : scrH M Mx := fun a j a1 a2 a3 a4 a5 a6 => by rw [q1 a j (by omega)]; exact hs1 a j a1 a2 a3 a4 a5 a6
        obtain ⟨M2, r1, r2, r3⟩ := hin e i Mx he (by omega) hsx
        have hb : f_X3_tableShares_27 sh Mx R (nI m) (nI e - 8) (nI i) = some (.inl (nI (i + 1), M2)) := by
          unfold f_X3_tableShares_27
          rw [if_neg (nI_ge (by omega) (by omega)), r1, bd1_e, nI_1]
        rw [lpf_go (body := fun a : Int32 × px_M => f_X3_tableShares_27 sh a.2 R (nI m) (nI e - 8) a.1) (a := (nI i, Mx)) hb]
        refine ih (i + 1) M2 (by omega) (fun a j q => by rw [r3 a j (by omega)]; exact q1 a j q) fun g c hg hc => ?_
        by_cases e2 : g = i
        · rw [e2]; exact r2 c hc
        · rw [r3 34 _ (by omega)]; exact q2 g c (by omega) hc
    exact hl m 0 M1 (by omega) (fun _ _ _ => rfl) (fun g c hg => absurd hg (by omega))
  have hloop : ∀ (k e : Nat) (M1 : px_M), e + k = 17 → scrH M M1 → M1 27 13 = 0 → (∀ d, d < e → ShI M M1 pa np m nc d) → ∃ M2, lpf (fun a : Int32 × px_M => f_X3_tableShares_3 sh a.2 R (nI m) a.1) (nI e - 8, M1) = some M2 ∧ scrH M M2 ∧ M2 27 13 = 0 ∧ ∀ e, e < 17 → ShI M M2 pa np m nc e := by
    intro k
    induction k with
    | zero =>
      intro e M1 he hs1 h1 hd
      obtain rfl : e = 17 := by omega
      refine ⟨M1, lpf_end ?_, hs1, h1, hd⟩
      show f_X3_tableShares_3 sh M1 R (nI m) (nI 17 - 8) = _
      unfold f_X3_tableShares_3
      rw [if_pos (by decide)]
    | succ k ih =>
      intro e M1 he hs1 h1 hd
      have hx : SailI sh M1 R np nf pa fp := h.fr hs1.sm (fun _ => ⟨rfl, rfl⟩) (fun _ q => q)
      have hs2 : scrH M (px_u M1 33 e (sX M pa m np (nI e - 8))) := fun a j a1 a2 a3 a4 a5 a6 => by rw [pu_n (by omega)]; exact hs1 a j a1 a2 a3 a4 a5 a6
      obtain ⟨M2, r1, r2, r3⟩ := hmid e _ (by omega) hs2
      have t1 : ¬ 8 < nI e - 8 := by
        rw [Int32.lt_iff_toInt_lt, show (nI e - 8).toInt = (e : Int) - 8 from pk_sub_toInt (b := 8) (by omega) (by decide), show (8 : Int32).toInt = 8 from by decide]
        omega
      have hb : f_X3_tableShares_3 sh M1 R (nI m) (nI e - 8) = some (.inl (nI (e + 1) - 8, M2)) := by
        unfold f_X3_tableShares_3
        rw [if_neg t1, c_pushXFrom hx hmp, bd1_e, sl_add, ok_t (ix_k (show e < 17 by omega) (by decide)), nm_u, nI_clamp (by omega), sX_fr h hs1.sm, r1, bd1_e, show nI e - 8 + 1 = nI (e + 1) - 8 by rw [← nI_1]; grind]
      rw [lpf_go (body := fun a : Int32 × px_M => f_X3_tableShares_3 sh a.2 R (nI m) a.1) (a := (nI e - 8, M1)) hb]
      refine ih (e + 1) M2 (by omega) (fun a j a1 a2 a3 a4 a5 a6 => by rw [r3 a j (by omega)]; exact hs2 a j a1 a2 a3 a4 a5 a6) (by rw [r3 27 13 (by omega), pu_n (by omega)]; exact h1) fun d hd2 => ?_
      by_cases e2 : d = e
      · rw [e2]
        exact ⟨by rw [r3 33 e (by omega), px_u_in], r2⟩
      · obtain ⟨s1, s2⟩ := hd d (by omega)
        exact ⟨by rw [r3 33 d (by omega), pu_n (by omega)]; exact s1, fun i c hi hc => by rw [r3 34 _ (by omega), pu_n (by omega)]; exact s2 i c hi hc⟩
  obtain ⟨M2, r1, r2⟩ := hloop 17 0 M' (by omega) hs0 h13 (fun d hd => absurd hd (by omega))
  refine ⟨M2, ?_, r2⟩
  unfold f_X3_tableShares
  rw [show lpf (fun a : Int32 × px_M => f_X3_tableShares_3 sh a.2 R (nI m) a.1) (-8, M') = _ from r1]
  rfl
/-! rows of coats, packed -/
def pkd (d : Nat → Nat) : Nat → Nat
  | 0 => 0
  | k + 1 => pkd d k + d k * 8 ^ k
theorem pkd_lt {d : Nat → Nat} : ∀ k, (∀ i, i < k → d i < 8) → pkd d k < 8 ^ k
  | 0, _ => Nat.zero_lt_one
  | k + 1, h => by
    have h1 := pkd_lt k fun i hi => h i (by omega)
    have h2 : d k * 8 ^ k ≤ 7 * 8 ^ k := Nat.mul_le_mul_right _ (by have := h k (by omega); omega)
    unfold pkd
    rw [Nat.pow_succ]
    omega
theorem pkd_at {d : Nat → Nat} : ∀ k i, i < k → (∀ i, i < k → d i < 8) → pkd d k / 8 ^ i % 8 = d i
  | 0, i, hi, _ => absurd hi (by omega)
  | k + 1, i, hi, h => by
    have h1 := pkd_lt (d := d) k fun i hi => h i (by omega)
    unfold pkd
    by_cases e : i = k
    · subst e
      rw [Nat.add_comm, Nat.mul_comm, Nat.mul_add_div (Nat.pow_pos (by decide)), Nat.div_eq_of_lt h1, Nat.add_zero, Nat.mod_eq_of_lt (h i (by omega))]
    · have ih := pkd_at (d := d) k i (by omega) fun i hi => h i (by omega)
      have e1 : d k * 8 ^ k = 8 ^ i * (8 * (d k * 8 ^ (k - i - 1))) := by
        rw [show k = i + 1 + (k - i - 1) by omega, Nat.pow_add, Nat.pow_succ]
        simp only [show i + 1 + (k - i - 1) - i - 1 = k - i - 1 by omega, show i + 1 + (k - i - 1) = k by omega]
        rw [Nat.mul_comm (d k), Nat.mul_assoc, Nat.mul_assoc, Nat.mul_comm (8 ^ (k - i - 1))]
      rw [e1, Nat.add_comm, Nat.mul_add_div (Nat.pow_pos (by decide)), Nat.mul_add_mod, ih]
theorem pk_or {a b k : Nat} (ha : a < 8 ^ k) : a ||| b * 8 ^ k = a + b * 8 ^ k := by
  have h8 : (8 : Nat) ^ k = 2 ^ (3 * k) := by rw [Nat.pow_mul]
  rw [h8] at ha ⊢
  have := Nat.shiftLeft_add_eq_or_of_lt (i := 3 * k) ha b
  rw [Nat.shiftLeft_eq] at this
  rw [Nat.or_comm, ← this, Nat.add_comm]
theorem c_packed {d : Nat → Nat} (hm : m ≤ 4) (hd : ∀ i, i < m → d i < 5) (h35 : ∀ i, i < m → M 35 i = nI (d i)) : f_X3_packedRow M (nI m) = some (nI (pkd d m)) := by
  have K := lpf_for (body := fun a : Int32 × Int32 => f_X3_packedRow_4 M (nI m) a.1 a.2) (fun i (s : Int32) => (s, nI i)) (fun i _ => nI (pkd d (i + 1))) (fun i s => s = nI (pkd d i)) (fun s => s) m
    (fun i s hi hP => by
      refine ⟨?_, rfl⟩
      have h1 := pkd_lt (d := d) i fun j hj => by have := hd j (by omega); omega
      have h3 := hd i hi
      have hp : 8 ^ i ≤ 8 ^ 3 := Nat.pow_le_pow_right (by decide) (by omega)
      have h8 : (8 : Nat) ^ i = 2 ^ (3 * i) := by rw [Nat.pow_mul]
      have h9 : d i * 8 ^ i ≤ 4 * 8 ^ 3 := Nat.mul_le_mul (by omega) hp
      show f_X3_packedRow_4 M (nI m) s (nI i) = _
      unfold f_X3_packedRow_4
      rw [if_neg (nI_ge hi (by omega)), ok_t (ix_k (show i < 4 by omega) (by decide)), nI_clamp (by omega), h35 i hi, nm_u, hP, show (3 : Int32) = nI 3 from rfl, pk_mul, pk_shlN _ (3 * i) (sh_l (3 * i) (by omega)) (by rw [← h8]; omega), ← h8, orI, pk_or h1, nI_1]
      rfl)
    (fun s _ => by
      show f_X3_packedRow_4 M (nI m) s (nI m) = _
      unfold f_X3_packedRow_4
      rw [if_pos (Int32.le_refl _)]) m 0 0 (by omega) rfl
  unfold f_X3_packedRow
  have := K.1
  rw [K.2] at this
  rw [show lpf (fun a : Int32 × Int32 => f_X3_packedRow_4 M (nI m) a.1 a.2) (0, 0) = _ from this]
  rfl
theorem e_coatIn {d : Nat → Nat} (hm : m ≤ 4) (hd : ∀ i, i < m → d i < 5) {i : Nat} (hi : i < m) : f_X3_coatIn (nI (pkd d m)) (nI i) = some (nI (d i)) := by
  have h1 := pkd_lt (d := d) m fun j hj => by have := hd j hj; omega
  have hp : 8 ^ m ≤ 8 ^ 4 := Nat.pow_le_pow_right (by decide) hm
  have h84 : (8 : Nat) ^ 4 = 4096 := by decide
  unfold f_X3_coatIn
  rw [told (by omega) (by omega), Nat.pow_mul, pkd_at m i hi fun j hj => by have := hd j hj; omega]
/-- the push of the hidden panels, with the coats d -/
def hpV (M : px_M) (pa : Nat → Nat) (m : Nat) (d : Nat → Nat) (s : Int32) : Int32 := Sg (fun i => pC M pa s i (d i)) m
theorem c_hidden {d : Nat → Nat} (hm : m ≤ 4) (hnc : nc ≤ 5) (hd : ∀ i, i < m → d i < nc) {e : Nat} (he : e < 17) (hS : ShI M M' pa np m nc e) : f_X3_hiddenPush M' (nI (pkd d m)) (nI m) (nI e - 8) = some (hpV M pa m d (nI e - 8)) := by
  have K := lpf_for (body := fun a : Int32 × Int32 => f_X3_hiddenPush_6 M' (nI (pkd d m)) (nI m) (nI e - 8) a.1 a.2) (fun i (s : Int32) => (s, nI i)) (fun i s => s + pC M pa (nI e - 8) i (d i)) (fun _ _ => True) (fun s => s) m
    (fun i s hi _ => by
      refine ⟨?_, trivial⟩
      have h3 := hd i hi
      have t1 : (nI e - 8 + 8) * 4 + nI i = nI (e * 4 + i) := by rw [sl_add, show (4 : Int32) = nI 4 from rfl, pk_mul, nI_add]
      have t2 : nI (e * 4 + i) * 5 + nI (d i) = nI ((e * 4 + i) * 5 + d i) := by rw [show (5 : Int32) = nI 5 from rfl, pk_mul, nI_add]
      show f_X3_hiddenPush_6 M' (nI (pkd d m)) (nI m) (nI e - 8) s (nI i) = _
      unfold f_X3_hiddenPush_6 f_X3_shareAt
      rw [if_neg (nI_ge hi (by omega)), e_coatIn hm (fun j hj => by have := hd j hj; omega) hi, bd1_e, bd1_e, t1, t2, ok_t (ix_k (show (e * 4 + i) * 5 + d i < 340 by omega) (by decide)), nm_u, nI_clamp (by omega), hS.2 i (d i) hi h3, nI_1])
    (fun s _ => by
      show f_X3_hiddenPush_6 M' (nI (pkd d m)) (nI m) (nI e - 8) s (nI m) = _
      unfold f_X3_hiddenPush_6
      rw [if_pos (Int32.le_refl _)]) m 0 0 (by omega) trivial
  unfold f_X3_hiddenPush
  rw [show lpf (fun a : Int32 × Int32 => f_X3_hiddenPush_6 M' (nI (pkd d m)) (nI m) (nI e - 8) a.1 a.2) (0, 0) = _ from K.1]
  rfl
/-- all sights hold for the coats d -/
def okS_ (M : px_M) (pa : Nat → Nat) (np m : Nat) (d : Nat → Nat) (i : Nat) : Prop := am (sX M pa m np (M 187 i) + hpV M pa m d (M 187 i) - M 188 i) ≤ M 189 i
noncomputable def okV (M : px_M) (pa : Nat → Nat) (np m ns : Nat) (d : Nat → Nat) : Bool := @decide (∀ i, i < ns → okS_ M pa np m d i) (Classical.propDecidable _)
theorem okV_iff {d : Nat → Nat} : okV M pa np m ns d = true ↔ ∀ i, i < ns → okS_ M pa np m d i := @decide_eq_true_iff _ (Classical.propDecidable _)
theorem find_b {body : Int32 → Option (Int32 ⊕ (Unit ⊕ Unit))} {N : Nat} {c : Nat → Prop} (hs : ∀ i, i < N → ¬ c i → body (nI i) = some (.inl (nI (i + 1)))) (hf : ∀ i, i < N → c i → body (nI i) = some (.inr (.inl ()))) (he : body (nI N) = some (.inr (.inr ()))) : (lpf body 0 = some (.inr ()) ∧ ∀ i, i < N → ¬ c i) ∨ (lpf body 0 = some (.inl ()) ∧ ∃ i, i < N ∧ c i) := by
  rcases lpf_find (body := body) (β := Unit ⊕ Unit) nI N c (fun _ => .inl ()) (.inr ()) hs hf he N 0 (by omega) with ⟨h1, h2⟩ | ⟨j, -, h2, h3, -, h5⟩
  · exact Or.inl ⟨h1, fun i hi => h2 i (by omega) hi⟩
  · exact Or.inr ⟨h5, j, h2, h3⟩
theorem c_holdsAll (hH : HideI M nc ns) {d : Nat → Nat} (hm : m ≤ 4) (hd : ∀ i, i < m → d i < nc) (hs : scrH M M') (hS : ∀ e, e < 17 → ShI M M' pa np m nc e) : f_X3_holdsAll M' (nI (pkd d m)) (nI m) = some (b2 (okV M pa np m ns d)) := by
  obtain ⟨⟨n5, n6⟩, hn, hco, hsi, -⟩ := hH
  have hv : ∀ a j, a = 30 ∨ a = 31 ∨ a = 32 → M' a j = M a j := fun a j ha => hs a j (by omega) (by omega) (by omega) (by omega) (by omega) (by omega)
  have hbody : ∀ i, i < ns → f_X3_holdsAll_2 M' (nI (pkd d m)) (nI m) (nI i) = if am (sX M pa m np (M 187 i) + hpV M pa m d (M 187 i) - M 188 i) ≤ M 189 i then some (.inl (nI (i + 1))) else some (.inr (.inl ())) := by
    intro i hi
    obtain ⟨s1, s2, s3, s4⟩ := hsi i hi
    obtain ⟨e, e1, e2⟩ := sl_8 s4
    unfold f_X3_holdsAll_2
    rw [hs 27 6 (by decide) (by decide) (by decide) (by decide) (by decide) (by omega), hn.2.2.1, if_neg (nI_ge hi (by omega)), ok_t (ix_k (show i < 6 by omega) (by decide)), nI_clamp (by omega), hv 30 i (Or.inl rfl), s1, e2, sl_add, nm_u, ok_t (ix_k e1 (by decide)), ok_t (ix_k (show i < 6 by omega) (by decide)), c_hidden hm n5 hd e1 (hS e e1), bd1_e, nI_clamp (by omega), (hS e e1).1, nm_u, ok_t (ix_k (show i < 6 by omega) (by decide)), hv 31 i (Or.inr (Or.inl rfl)), s2, e_abs, bd1_e, ok_t (ix_k (show i < 6 by omega) (by decide)), hv 32 i (Or.inr (Or.inr rfl)), s3, nI_1]
  have K := find_b (body := fun a => f_X3_holdsAll_2 M' (nI (pkd d m)) (nI m) a) (N := ns) (c := fun i => ¬ okS_ M pa np m d i)
    (fun i hi hc => (hbody i hi).trans (if_pos (Classical.not_not.mp hc))) (fun i hi hc => (hbody i hi).trans (if_neg hc)) (by
      show f_X3_holdsAll_2 M' (nI (pkd d m)) (nI m) (nI ns) = _
      unfold f_X3_holdsAll_2
      rw [hs 27 6 (by decide) (by decide) (by decide) (by decide) (by decide) (by omega), hn.2.2.1, if_pos (Int32.le_refl _)])
  unfold f_X3_holdsAll
  rcases K with ⟨k1, k2⟩ | ⟨k1, i, k2, k3⟩
  · rw [k1, (okV_iff (d := d)).mpr fun i hi => Classical.not_not.mp (k2 i hi)]; rfl
  · rw [k1, Bool.eq_false_iff.mpr fun q => k3 ((okV_iff (d := d)).mp q i k2)]; rfl
end FITS
