/-! safe -/
section SAFE2
variable {sh : px_Sh} {M : px_M} {L : px_L} {R : px_R} {n nn u o : Nat} {row : List Nat}
/-- the reference's way through the first order -/
theorem m_way {sh1 : px_Sh} {L1 : px_L} {R1 : px_R} {na ad : Nat} (hn2 : 2 ≤ n) (hn8 : n ≤ 8) (hF : Full n row) (ho2 : o < 2 ^ (n - 1)) {P : Nat → Nat} (hPd : P = fun p => row.idxOf p) (hN : 0 < Nn n P o) (p1 : Int32) :
    ∀ (m i : Nat) (f : Int32) (M1 : px_M), i + m = shm o (n - 1) → M1 73 1 = nI n → (∀ j, j < n → M1 74 j = nI (row.getD j 0)) → (∀ c, c < 8 → M1 78 c = b2 ((sqF n P o i).testBit c)) →
      ∃ M2, lpf (fun a : Int32 × Int32 × Int32 × px_M => f_X12_safe_80 sh1 a.2.2.2 L1 R1 na p1 a.1 a.2.1 ad a.2.2.1) (nI i, f, 1, M1) = some ((if ¬ p1 < nI i ∧ p1 < nI (shm o (n - 1)) then nI (fsC n P (sqF n P o p1.toNatClampNeg)) else f), M2) ∧ ∀ a j, a ≠ 75 → ¬ (a = 78 ∧ j < 8) → M2 a j = M1 a j := by
  have hsl := shm_le o (n - 1)
  have hsq := sq_inv (n := n) (P := P) ho2 hN
  -- the search for the first crease that leads on
  have hfind : ∀ s, s < 2 ^ (n - 1) → ∀ (x2 f : Int32) (m d : Nat) (M1 : px_M), d + m = n - 1 → M1 73 1 = nI n → (∀ j, j < n → M1 74 j = nI (row.getD j 0)) → (∀ c, c < 8 → M1 78 c = b2 (s.testBit c)) →
      ∃ c M2, lpf (fun a : Int32 × px_M => f_X12_safe_88 sh1 a.2 L1 R1 na p1 x2 f ad a.1) (nI d, M1) = some (nI c, M2) ∧ (∀ a j, a ≠ 75 → M2 a j = M1 a j) ∧ d ≤ c ∧ c ≤ n - 1 ∧ (c < n - 1 → goodC n P s c = true) ∧ ∀ e, d ≤ e → e < c → ¬ goodC n P s e = true := by
    intro s hs x2 f m
    induction m with
    | zero =>
      intro d M1 hd e1 e74 e78
      obtain rfl : d = n - 1 := by omega
      refine ⟨n - 1, M1, lpf_end ?_, fun _ _ _ => rfl, Nat.le_refl _, Nat.le_refl _, fun x => absurd x (Nat.lt_irrefl _), fun e a b => absurd a (by omega)⟩
      show f_X12_safe_88 sh1 M1 L1 R1 na p1 x2 f ad (nI (n - 1)) = _
      unfold f_X12_safe_88
      rw [e1, nI_1, if_pos (nI_le (by omega) (by omega))]
    | succ m ih =>
      intro d M1 hd e1 e74 e78
      obtain ⟨M2, r1, r2⟩ := m_leads (M := M1) hn2 hn8 hF hs (show d + 1 < n by omega) e1 e74 e78
      rw [← hPd] at r1
      have hb : f_X12_safe_88 sh1 M1 L1 R1 na p1 x2 f ad (nI d) = if goodC n P s d = false then some (.inl (nI (d + 1), M2)) else some (.inr (nI d, M2)) := by
        unfold f_X12_safe_88
        rw [e1, nI_1, if_neg (nI_ge (by omega) (by omega)), r1, bd1_e]
        dsimp only
        rw [ifi b2_0]
      by_cases q : goodC n P s d = true
      · refine ⟨d, M2, lpf_end (hb.trans (if_neg (by rw [q]; decide))), r2, Nat.le_refl _, by omega, fun _ => q, fun e a b => absurd a (by omega)⟩
      · obtain ⟨c, M3, a1, a2, a3, a4, a5, a6⟩ := ih (d + 1) M2 (by omega) (by rw [r2 73 1 (by decide)]; exact e1) (fun j hj => by rw [r2 74 j (by decide)]; exact e74 j hj) (fun c hc => by rw [r2 78 c (by decide)]; exact e78 c hc)
        refine ⟨c, M3, ?_, fun a j ha => (a2 a j ha).trans (r2 a j ha), by omega, a4, a5, fun e b1 b2 => ?_⟩
        · rw [lpf_go (body := fun a : Int32 × px_M => f_X12_safe_88 sh1 a.2 L1 R1 na p1 x2 f ad a.1) (a := (nI d, M1)) (hb.trans (if_pos (Bool.eq_false_iff.mpr q)))]
          exact a1
        · by_cases e2 : e = d
          · rw [e2]; exact q
          · exact a6 e (by omega) b2
  intro m
  induction m with
  | zero =>
    intro i f M1 hi e1 e74 e78
    obtain rfl : i = shm o (n - 1) := by omega
    obtain ⟨⟨s1, s2, s3, s4, s5⟩, -⟩ := hsq (shm o (n - 1)) (Nat.le_refl _)
    have hall : shm (sqF n P o (shm o (n - 1))) (n - 1) = 0 := by omega
    have hno : ∀ c, c < n - 1 → ¬ goodC n P (sqF n P o (shm o (n - 1))) c = true := by
      intro c hc q
      have h1 := mayO_f (good_may q).1
      rw [(shm_0 s3).mp hall, Nat.testBit_two_pow_sub_one] at h1
      simp [hc] at h1
    obtain ⟨c, M2, a1, a2, a3, a4, a5, a6⟩ := hfind _ s3 (nI (shm o (n - 1))) f (n - 1) 0 M1 (by omega) e1 e74 e78
    have hc : c = n - 1 := by
      apply Decidable.byContradiction
      intro x
      exact hno c (by omega) (a5 (by omega))
    subst hc
    have hb : f_X12_safe_80 sh1 M1 L1 R1 na p1 (nI (shm o (n - 1))) f ad 1 = some (.inl (nI (shm o (n - 1)), f, 0, M2)) := by
      unfold f_X12_safe_80 f_X12_safe_130 f_X12_safe_160
      rw [if_neg (by decide), show lpf (fun a : Int32 × px_M => f_X12_safe_88 sh1 a.2 L1 R1 na p1 (nI (shm o (n - 1))) f ad a.1) (0, M1) = _ from a1, bd1_e]
      rw [if_pos (show M2 73 1 ≤ nI (n - 1) + 1 by rw [a2 73 1 (by decide), e1, nI_1]; exact nI_le (by omega) (by omega)), if_pos rfl]
    refine ⟨M2, ?_, fun a j h1 h2 => a2 a j h1⟩
    rw [lpf_go (body := fun a : Int32 × Int32 × Int32 × px_M => f_X12_safe_80 sh1 a.2.2.2 L1 R1 na p1 a.1 a.2.1 ad a.2.2.1) (a := (nI (shm o (n - 1)), f, 1, M1)) (a' := (nI (shm o (n - 1)), f, 0, M2)) hb, if_neg (fun x => x.1 x.2)]
    apply lpf_end
    show f_X12_safe_80 sh1 M2 L1 R1 na p1 (nI (shm o (n - 1))) f ad 0 = _
    unfold f_X12_safe_80
    rw [if_pos rfl]
  | succ m ih =>
    intro i f M1 hi e1 e74 e78
    obtain ⟨⟨s1, s2, s3, s4, s5⟩, s6⟩ := hsq i (by omega)
    obtain ⟨f1, f2, f3⟩ := s6 (by omega)
    obtain ⟨c, M2, a1, a2, a3, a4, a5, a6⟩ := hfind _ s3 (nI i) f (n - 1) 0 M1 (by omega) e1 e74 e78
    have hc : c = fsC n P (sqF n P o i) := by
      rcases Nat.lt_trichotomy c (fsC n P (sqF n P o i)) with x | x | x
      · exact absurd (a5 (by omega)) (f3 c x)
      · exact x
      · exact absurd f2 (a6 _ (by omega) x)
    subst hc
    have hb : f_X12_safe_80 sh1 M1 L1 R1 na p1 (nI i) f ad 1 = some (.inl (nI (i + 1), (if nI i = p1 then nI (fsC n P (sqF n P o i)) else f), 1, px_u M2 78 (fsC n P (sqF n P o i)) 1)) := by
      unfold f_X12_safe_80 f_X12_safe_130 f_X12_safe_156 f_X12_safe_160
      rw [if_neg (by decide), show lpf (fun a : Int32 × px_M => f_X12_safe_88 sh1 a.2 L1 R1 na p1 (nI i) f ad a.1) (0, M1) = _ from a1, bd1_e]
      rw [if_neg (show ¬ M2 73 1 ≤ nI (fsC n P (sqF n P o i)) + 1 by rw [a2 73 1 (by decide), e1, nI_1]; exact nI_ge (by omega) (by omega)), if_neg (by decide), ok_t (ix_k (show fsC n P (sqF n P o i) < 8 by omega) (by decide)), nI_clamp (by omega), nm_u, nI_1]
      split <;> rfl
    obtain ⟨M3, b1, b2'⟩ := ih (i + 1) (if nI i = p1 then nI (fsC n P (sqF n P o i)) else f) (px_u M2 78 (fsC n P (sqF n P o i)) 1) (by omega) (by rw [pu_n (by omega), a2 73 1 (by decide)]; exact e1) (fun j hj => by rw [pu_n (by omega), a2 74 j (by decide)]; exact e74 j hj) (fun c hc => by
      show _ = b2 ((sqF n P o i ||| 2 ^ fsC n P (sqF n P o i)).testBit c)
      rw [tb_or]
      by_cases e : c = fsC n P (sqF n P o i)
      · rw [e, px_u_in]; simp; rfl
      · rw [pu_n (by omega), a2 78 c (by decide), e78 c hc]; simp [show ¬ fsC n P (sqF n P o i) = c from fun x => e x.symm])
    refine ⟨M3, ?_, fun a j h1 h2 => by rw [b2' a j h1 h2, pu_n (by omega), a2 a j h1]⟩
    rw [lpf_go (body := fun a : Int32 × Int32 × Int32 × px_M => f_X12_safe_80 sh1 a.2.2.2 L1 R1 na p1 a.1 a.2.1 ad a.2.2.1) (a := (nI i, f, 1, M1)) hb, b1]
    congr 2
    have ti : (nI i).toInt = (i : Int) := nI_toInt (by omega)
    have ti1 : (nI (i + 1)).toInt = (i : Int) + 1 := by rw [nI_toInt (by omega)]; rfl
    by_cases q : nI i = p1
    · rw [if_pos q]
      have h1 : ¬ (¬ p1 < nI (i + 1) ∧ p1 < nI (shm o (n - 1))) := fun x => x.1 (by rw [← q]; exact nI_lt (by omega) (by omega))
      have h2 : ¬ p1 < nI i ∧ p1 < nI (shm o (n - 1)) := ⟨by rw [← q]; exact Int32.lt_irrefl, by rw [← q]; exact nI_lt (by omega) (by omega)⟩
      rw [if_neg h1, if_pos h2, ← q, nI_clamp (by omega)]
    · rw [if_neg q]
      have h1 : (¬ p1 < nI (i + 1) ∧ p1 < nI (shm o (n - 1))) ↔ (¬ p1 < nI i ∧ p1 < nI (shm o (n - 1))) := by
        have hA : p1 < nI (i + 1) ↔ p1.toInt < (i : Int) + 1 := by rw [Int32.lt_iff_toInt_lt, ti1]
        have hB : p1 < nI i ↔ p1.toInt < (i : Int) := by rw [Int32.lt_iff_toInt_lt, ti]
        rw [hA, hB]
        have : p1.toInt ≠ (i : Int) := fun x => q (Int32.toInt_inj.mp (by rw [ti, x]))
        constructor
        · rintro ⟨x, y⟩; exact ⟨by omega, y⟩
        · rintro ⟨x, y⟩; exact ⟨by omega, y⟩
      rw [ifi h1]
set_option maxHeartbeats 1000000 in
theorem p_safe (hI : FoldI M n u o row) (hn : 220 ≤ nn) (hs : sh nn = none) (p1 : Int32) :
    (∃ r M1 M2, f_X11_safe M p1 = some (.inl (r, M1)) ∧ f_X12_safe sh M1 L R nn p1 = some (r, px_c sh nn (some (15, 8)), M2, px_c L nn (fun _ => 0), px_c R nn (fun _ => none), nn + 1) ∧ M2 73 0 = 0 ∧ kp sh [] M M2) ∨ (f_X11_safe M p1 = some (.inr 1) ∧ f_X12_safe sh M L R nn p1 = some (0, sh, px_t M 1, L, R, nn)) := by
  have hI' := hI
  obtain ⟨h1, h2, h3, h4, h5, h6⟩ := hI
  by_cases hn0 : n = 0
  · right
    subst hn0
    unfold f_X11_safe f_X12_safe f_X11_safe_15 f_X12_safe_18
    rw [h3.1, if_pos (by decide), if_pos rfl, nm_u, if_pos (show (px_u M 73 0 0) 73 3 = 0 from h4 rfl), e_bt (by decide), bd1_e]
    exact ⟨rfl, rfl⟩
  · left
    have hn8 : n ≤ 8 := by omega
    have hn2 : 2 ≤ n := by omega
    obtain ⟨⟨k, kp0, kp1, kp2⟩, k2, k3, k4⟩ := h5 hn0
    obtain ⟨hP, hb⟩ := hI'.lay hn0
    obtain ⟨P, hPd⟩ : ∃ P, P = fun p => row.idxOf p := ⟨_, rfl⟩
    have hP' : ∀ p, p < n → M 3 p = nI (P p) := fun p hp => by rw [hPd]; exact hP p hp
    have hb' : ∀ p, p < n → P p < 8 := fun p hp => by rw [hPd]; exact hb p hp
    obtain ⟨M1, c1, c2⟩ := c_safe (M := M) (P := P) h3.1 hn2 hn8 h3.2.2.2.2 h2.2 hP' hb' p1
    have hsl := shm_le o (n - 1)
    -- the reference: the copy of what is open
    obtain ⟨Ma, hMa⟩ : ∃ Ma, Ma = px_c (px_u M1 73 0 0) nn (fun _ => 0) := ⟨_, rfl⟩
    have ha : ∀ a j, a ≠ nn → a ≠ 5 → ¬ (a = 73 ∧ j = 0) → Ma a j = M a j := by
      intro a j x1 x2 x3
      rw [hMa, px_c_ne _ _ x1, pu_n x3, c2 a j x2]
    obtain ⟨sh1, hsh1⟩ : ∃ s, s = px_c sh nn (some (15, 8)) := ⟨_, rfl⟩
    have hshn : sh1 nn = some (15, 8) := by rw [hsh1]; exact px_c_in _ _ _
    have K1 := lpf_for (body := fun a : Int32 × px_M => f_X12_safe_40 sh1 a.2 (px_c L nn (fun _ => 0)) (px_c R nn (fun _ => none)) (nn + 1) p1 0 (-1) nn a.1) (fun i (M' : px_M) => (nI i, M')) (fun i M' => px_u M' nn i (b2 (o.testBit i)))
      (fun c M' => (∀ a j, a ≠ nn → M' a j = Ma a j) ∧ ∀ i, i < c → M' nn i = b2 (o.testBit i)) (fun M' => M') 8
      (fun i M' hi hP => by
        obtain ⟨p1, p2⟩ := hP
        refine ⟨?_, fun a j q1 => ?_, fun j hj => ?_⟩
        · show f_X12_safe_40 sh1 M' _ _ _ _ _ _ nn (nI i) = _
          unfold f_X12_safe_40
          have e4 : M' 78 i = b2 (o.testBit i) := by rw [p1 78 i (by omega), ha 78 i (by omega) (by omega) (by omega)]; exact h6 i hi
          rw [if_neg (show ¬ 8 ≤ nI i from nI_ge (b := 8) hi (by decide)), ok_t (ix_k hi (by decide)), nI_clamp (by omega), nm_u, e4, ok_t (xk_t hshn (ix_k hi (by decide))), ok_t (b2_z _), nm_u, nI_1]
        · rw [pu_n (by omega)]; exact p1 a j q1
        · by_cases e : j = i
          · subst e; exact px_u_in _ _ _ _
          · rw [pu_n (by omega)]; exact p2 j (by omega))
      (fun M' hP => by
        show f_X12_safe_40 sh1 M' _ _ _ _ _ _ nn (nI 8) = _
        unfold f_X12_safe_40
        rw [if_pos (by decide)]) 8 0 Ma (by omega) ⟨fun _ _ _ => rfl, fun j hj => absurd hj (by omega)⟩
    obtain ⟨k1a, k1b, k1c⟩ := K1
    obtain ⟨Mb, hMb⟩ : ∃ Mb, Mb = fld (fun i (M' : px_M) => px_u M' nn i (b2 (o.testBit i))) 0 8 Ma := ⟨_, rfl⟩
    rw [← hMb] at k1a k1b k1c
    have hb1 : Mb 73 1 = nI n := by rw [k1b 73 1 (by omega), ha 73 1 (by omega) (by omega) (by omega)]; exact h3.2.1
    have hb74 : ∀ j, j < n → Mb 74 j = nI (row.getD j 0) := fun j hj => by rw [k1b 74 j (by omega), ha 74 j (by omega) (by omega) (by omega)]; exact k4 j hj
    have hb78 : ∀ i, i < 8 → Mb 78 i = b2 (o.testBit i) := fun i hi => by rw [k1b 78 i (by omega), ha 78 i (by omega) (by omega) (by omega)]; exact h6 i hi
    obtain ⟨Mc, r1, r2⟩ := m_countOrders hn2 hn8 k2 (shm o (n - 1)) 10 o 0 Mb (by omega) h2.2 rfl hb1 hb74 hb78
    rw [← hPd] at r1
    have hN := Nn_lt hn8 (P := P) o
    -- the way
    have hway : ∃ Md, lpf (fun a : Int32 × Int32 × Int32 × px_M => f_X12_safe_80 sh1 a.2.2.2 (px_c L nn (fun _ => 0)) (px_c R nn (fun _ => none)) (nn + 1) p1 a.1 a.2.1 nn a.2.2.1) (0, -1, (if nI (Nn n P o) ≤ 0 then 0 else 1), Mc) = some ((if 0 < Nn n P o ∧ ¬ p1 < 0 ∧ p1 < nI (shm o (n - 1)) then nI (fsC n P (sqF n P o p1.toNatClampNeg)) else -1), Md) ∧ ∀ a j, a ≠ 75 → ¬ (a = 78 ∧ j < 8) → Md a j = Mc a j := by
      by_cases q : Nn n P o = 0
      · rw [if_pos (by rw [q]; decide), if_neg (fun x => absurd x.1 (by omega))]
        refine ⟨Mc, lpf_end ?_, fun _ _ _ _ => rfl⟩
        show f_X12_safe_80 sh1 Mc _ _ _ p1 0 (-1) nn 0 = _
        unfold f_X12_safe_80
        rw [if_pos rfl]
      · rw [if_neg (nI_nle (by omega) (by omega))]
        obtain ⟨Md, d1, d2⟩ := m_way (sh1 := sh1) (L1 := px_c L nn (fun _ => 0)) (R1 := px_c R nn (fun _ => none)) (na := nn + 1) (ad := nn) hn2 hn8 k2 h2.2 hPd (by omega) p1 (shm o (n - 1)) 0 (-1) Mc (by omega) (by rw [r2 73 1 (by decide)]; exact hb1) (fun j hj => by rw [r2 74 j (by decide)]; exact hb74 j hj) (fun c hc => by rw [r2 78 c (by decide)]; exact hb78 c hc)
        refine ⟨Md, ?_, d2⟩
        rw [show ((0, -1, 1, Mc) : Int32 × Int32 × Int32 × px_M) = (nI 0, -1, 1, Mc) from rfl, d1]
        congr 2
        refine ifi ?_
        constructor
        · rintro ⟨x, y⟩; exact ⟨by omega, x, y⟩
        · rintro ⟨-, x, y⟩; exact ⟨x, y⟩
    obtain ⟨Md, d1, d2⟩ := hway
    have hdn : ∀ i, i < 8 → Md nn i = b2 (o.testBit i) := fun i hi => by rw [d2 nn i (by omega) (by omega), r2 nn i (by omega)]; exact k1c i hi
    have K2 := fun z : Int32 => lpf_for (body := fun a : Int32 × px_M => f_X12_safe_166 sh1 a.2 (px_c L nn (fun _ => 0)) (px_c R nn (fun _ => none)) (nn + 1) z nn a.1) (fun i (M' : px_M) => (nI i, M')) (fun i M' => px_u M' 78 i (b2 (o.testBit i)))
      (fun c M' => (∀ a j, a ≠ 78 → M' a j = Md a j) ∧ (∀ i, i < c → M' 78 i = b2 (o.testBit i)) ∧ ∀ i, 8 ≤ i → M' 78 i = Md 78 i) (fun M' => M') 8
      (fun i M' hi hP => by
        obtain ⟨p1, p2, p3⟩ := hP
        refine ⟨?_, fun a j q1 => ?_, fun j hj => ?_, fun j hj => ?_⟩
        · show f_X12_safe_166 sh1 M' _ _ _ z nn (nI i) = _
          unfold f_X12_safe_166
          have e4 : M' nn i = b2 (o.testBit i) := by rw [p1 nn i (by omega)]; exact hdn i hi
          rw [if_neg (show ¬ 8 ≤ nI i from nI_ge (b := 8) hi (by decide)), ok_t (xk_t hshn (ix_k hi (by decide))), nI_clamp (by omega), nm_u, e4, ok_t (ix_k hi (by decide)), ok_t (b2_z _), nm_u, nI_1]
        · rw [pu_n (by omega)]; exact p1 a j q1
        · by_cases e : j = i
          · subst e; exact px_u_in _ _ _ _
          · rw [pu_n (by omega)]; exact p2 j (by omega)
        · rw [pu_n (by omega)]; exact p3 j hj)
      (fun M' hP => by
        show f_X12_safe_166 sh1 M' _ _ _ z nn (nI 8) = _
        unfold f_X12_safe_166
        rw [if_pos (by decide)]) 8 0 Md (by omega) ⟨fun _ _ _ => rfl, fun j hj => absurd hj (by omega), fun _ _ => rfl⟩
    obtain ⟨Me, hMe⟩ : ∃ Me, Me = fld (fun i (M' : px_M) => px_u M' 78 i (b2 (o.testBit i))) 0 8 Md := ⟨_, rfl⟩
    rw [← hMe] at K2
    obtain ⟨-, e1, e2, e3⟩ := K2 0
    have h78 : ∀ (m i : Nat) (Mx : px_M) (j : Nat), 8 ≤ j → i + m ≤ 8 → (fld (fun i (M' : px_M) => px_u M' 78 i (b2 (o.testBit i))) i m Mx) 78 j = Mx 78 j := fun m => by
      induction m with
      | zero => intro i Mx j _ _; rfl
      | succ m ih => intro i Mx j hj hm; unfold fld; rw [ih (i + 1) _ j hj (by omega), pu_n (by omega)]
    refine ⟨(if 0 < Nn n P o ∧ ¬ p1 < 0 ∧ p1 < nI (shm o (n - 1)) then nI (fsC n P (sqF n P o p1.toNatClampNeg)) else -1), M1, Me, ?_, ?_, ?_, ?_⟩
    · unfold f_X11_safe f_X11_safe_15 f_X11_safe_18
      rw [h3.1, if_neg (nI_nle (by omega) (by omega)), if_neg (by decide), c1]; rfl
    · unfold f_X12_safe f_X12_safe_18
      rw [nm_u, if_neg (show ¬ (px_u M1 73 0 0) 73 3 = 0 by rw [pu_n (by omega), c2 73 3 (by decide), kp2]; exact nI_ne0 kp0 kp1), e_bf, bd1_e, if_pos rfl]
      simp only [nm_u]
      rw [← hMa, ← hsh1, show lpf (fun a : Int32 × px_M => f_X12_safe_40 sh1 a.2 (px_c L nn (fun _ => 0)) (px_c R nn (fun _ => none)) (nn + 1) p1 0 (-1) nn a.1) (0, Ma) = _ from k1a, bd1_e, show f_X12_countOrders Mb 0 = _ from r1, bd1_e]
      dsimp only
      have h78' : ∀ z : Int32, f_X12_safe_78 sh1 Mc (px_c L nn (fun _ => 0)) (px_c R nn (fun _ => none)) (nn + 1) p1 0 (-1) nn (if nI (Nn n P o) ≤ 0 then 0 else 1) = some ((if 0 < Nn n P o ∧ ¬ p1 < 0 ∧ p1 < nI (shm o (n - 1)) then nI (fsC n P (sqF n P o p1.toNatClampNeg)) else -1), sh1, Me, px_c L nn (fun _ => 0), px_c R nn (fun _ => none), nn + 1) := by
        intro z
        unfold f_X12_safe_78
        rw [d1, bd1_e]
        dsimp only
        rw [show lpf (fun a : Int32 × px_M => f_X12_safe_166 sh1 a.2 (px_c L nn (fun _ => 0)) (px_c R nn (fun _ => none)) (nn + 1) (if 0 < Nn n P o ∧ ¬ p1 < 0 ∧ p1 < nI (shm o (n - 1)) then nI (fsC n P (sqF n P o p1.toNatClampNeg)) else -1) nn a.1) (0, Md) = _ from (K2 _).1, bd1_e]
      have h9 := h78' 0
      by_cases q : nI (Nn n P o) ≤ 0
      · rw [if_pos q] at h9
        rw [if_pos q, h9]
      · rw [if_neg q] at h9
        rw [if_neg q, h9]
    · rw [e1 73 0 (by decide), d2 73 0 (by decide) (by decide), r2 73 0 (by decide), k1b 73 0 (by omega), hMa, px_c_ne _ _ (by omega)]; exact px_u_in _ _ _ _
    · intro a j hx
      have x1 : a ≠ 5 := fun q => hx (by rw [q]; exact List.mem_cons_self)
      have x2 : ¬ (a = 73 ∧ j = 0) := fun q => hx (by rw [q.1, q.2]; exact List.mem_cons_self)
      have x3 : a ≠ 75 := fun q => hx (by rw [q]; exact List.mem_cons_self)
      have x4 : a ≠ nn := fun q => hx (by rw [q, md_n hn hs]; exact List.mem_cons_self)
      by_cases e78 : a = 78
      · subst e78
        by_cases hj : j < 8
        · rw [e2 j hj, h6 j hj]
        · rw [e3 j (by omega), d2 78 j (by decide) (by omega), r2 78 j (by decide), k1b 78 j x4, ha 78 j x4 x1 x2]
      · rw [e1 a j e78, d2 a j x3 (fun q => e78 q.1), r2 a j x3, k1b a j x4, ha a j x4 x1 x2]
end SAFE2
