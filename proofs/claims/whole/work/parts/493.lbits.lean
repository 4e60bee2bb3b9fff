/-! bits of longs (the rows wb_ began as the kit's starting texts) -/
theorem wb_tb (n : Nat) : (lN n).toBitVec = BitVec.ofNat 64 n := rfl
theorem wb_inj {a b : Int64} (h : a.toBitVec = b.toBitVec) : a = b := Int64.toBitVec_inj.mp h
theorem wb_tn {n : Nat} (h : n < 2 ^ 64) : (lN n).toBitVec.toNat = n := by rw [wb_tb, BitVec.toNat_ofNat, Nat.mod_eq_of_lt h]
theorem wb_of (x : Int64) : ∃ n, n < 2 ^ 64 ∧ x = lN n := ⟨x.toBitVec.toNat, x.toBitVec.isLt, wb_inj (by rw [wb_tb]; simp)⟩
theorem wb_of32 (x : Int32) : ∃ n, n < 2 ^ 32 ∧ x = nI n := ⟨x.toBitVec.toNat, x.toBitVec.isLt, Int32.toBitVec_inj.mp (by show _ = BitVec.ofNat 32 _; simp)⟩
theorem wb_c : ∀ k, k < 64 → ((nI k).toInt64 &&& 63) = lN k := by decide +kernel
theorem wb_cu : ∀ k, k < 64 → ((nI k).toInt64.toUInt64 &&& Int64.toUInt64 63) = UInt64.ofNat k := by decide +kernel
theorem wb_sm : ∀ k, k < 64 → (BitVec.ofNat 64 k).smod 64 = BitVec.ofNat 64 k := by decide +kernel
theorem wb_pw {a b : Nat} (h : a ≤ b) : 2 ^ b = 2 ^ a * 2 ^ (b - a) := by rw [← Nat.pow_add]; congr 1; omega
theorem wb_lt2 {a b : Nat} (h : a < b) : 2 ^ a < 2 ^ b := Nat.pow_lt_pow_right (by decide) h
theorem wb_mod (n : Nat) : lN n = lN (n % 2 ^ 64) := wb_inj (by rw [wb_tb, wb_tb]; apply BitVec.eq_of_toNat_eq; rw [BitVec.toNat_ofNat, BitVec.toNat_ofNat, Nat.mod_mod])
theorem wb_shr {n k : Nat} (hn : n < 2 ^ 64) (hk : k < 64) : ((lN n).toUInt64 >>> ((nI k).toInt64.toUInt64 &&& Int64.toUInt64 63)).toInt64 = lN (n / 2 ^ k) := by
  rw [wb_cu k hk]
  apply wb_inj
  apply BitVec.eq_of_toNat_eq
  show ((lN n).toUInt64 >>> UInt64.ofNat k).toNat = (BitVec.ofNat 64 _).toNat
  have h1 : (UInt64.ofNat k).toNat = k := by
    show (BitVec.ofNat 64 k).toNat = k
    rw [BitVec.toNat_ofNat, Nat.mod_eq_of_lt (by omega)]
  have h2 : (lN n).toUInt64.toNat = n := wb_tn hn
  rw [UInt64.toNat_shiftRight, h1, h2, Nat.mod_eq_of_lt hk, Nat.shiftRight_eq_div_pow, BitVec.toNat_ofNat, Nat.mod_eq_of_lt (Nat.lt_of_le_of_lt (Nat.div_le_self _ _) hn)]
theorem wb_shl (n : Nat) {k : Nat} (hk : k < 64) : lN n <<< ((nI k).toInt64 &&& 63) = lN (n * 2 ^ k) := by
  rw [wb_c k hk]
  apply wb_inj
  rw [Int64.toBitVec_shiftLeft, wb_tb, wb_tb, wb_tb, wb_sm k hk]
  apply BitVec.eq_of_toNat_eq
  rw [BitVec.shiftLeft_eq', BitVec.toNat_shiftLeft, BitVec.toNat_ofNat, BitVec.toNat_ofNat, BitVec.toNat_ofNat, Nat.mod_eq_of_lt (show k < 2 ^ 64 by omega), Nat.shiftLeft_eq, Nat.mul_mod, Nat.mod_mod, ← Nat.mul_mod]
theorem wb_and {a b : Nat} (ha : a < 2 ^ 64) (hb : b < 2 ^ 64) : lN a &&& lN b = lN (a &&& b) := by
  apply wb_inj
  rw [Int64.toBitVec_and, wb_tb, wb_tb, wb_tb]
  apply BitVec.eq_of_toNat_eq
  rw [BitVec.toNat_and, BitVec.toNat_ofNat, BitVec.toNat_ofNat, BitVec.toNat_ofNat, Nat.mod_eq_of_lt ha, Nat.mod_eq_of_lt hb, Nat.mod_eq_of_lt (Nat.and_lt_two_pow _ hb)]
theorem wb_or {a b : Nat} (ha : a < 2 ^ 64) (hb : b < 2 ^ 64) : lN a ||| lN b = lN (a ||| b) := by
  apply wb_inj
  rw [Int64.toBitVec_or, wb_tb, wb_tb, wb_tb]
  apply BitVec.eq_of_toNat_eq
  rw [BitVec.toNat_or, BitVec.toNat_ofNat, BitVec.toNat_ofNat, BitVec.toNat_ofNat, Nat.mod_eq_of_lt ha, Nat.mod_eq_of_lt hb, Nat.mod_eq_of_lt (Nat.or_lt_two_pow ha hb)]
theorem wb_mask {n k : Nat} (hn : n < 2 ^ 64) (hk : k < 64) : lN n &&& lN (2 ^ k - 1) = lN (n % 2 ^ k) := by
  rw [wb_and hn (by have := wb_lt2 hk; omega), Nat.and_two_pow_sub_one_eq_mod]
theorem wb_eq {a b : Nat} (ha : a < 2 ^ 64) (hb : b < 2 ^ 64) : lN a = lN b ↔ a = b := by
  constructor
  · intro h
    have := congrArg (fun x : Int64 => x.toBitVec.toNat) h
    simp only [wb_tn ha, wb_tn hb] at this
    exact this
  · intro h; rw [h]
/-! what a panel's push can be -/
theorem cos_b : ∀ k, k < 17 → cosv (nI k - 8) = lN (cosv (nI k - 8)).toInt.toNat ∧ (cosv (nI k - 8)).toInt.toNat ≤ 1000 := by decide +kernel
theorem vpx_b {ar bk kp : Int32} (x : Int32) (h1 : 1 ≤ ar ∧ ar ≤ 1000) (h2 : 0 ≤ bk ∧ bk ≤ 100) (h3 : 0 ≤ kp ∧ kp ≤ 100) (h4 : bk + kp ≤ 100) : ∃ a, a ≤ 2000 ∧ vpx ar (cl8 x) bk kp = nI a := by
  obtain ⟨k, k1, k2⟩ := cl8_r x
  rw [k2]
  obtain ⟨c1, c2⟩ := cos_b k k1
  obtain ⟨c, hc⟩ : ∃ c, c = (cosv (nI k - 8)).toInt.toNat := ⟨_, rfl⟩
  rw [← hc] at c1 c2
  obtain ⟨a, a1, rfl⟩ := nI_of2 (M := 1000) (n := 1000) (by decide) (Int32.not_lt.mpr (Int32.le_trans (by decide) h1.1)) h1.2
  obtain ⟨b, b1, rfl⟩ := nI_of2 (M := 100) (n := 100) (by decide) (Int32.not_lt.mpr h2.1) h2.2
  obtain ⟨d, d1, rfl⟩ := nI_of2 (M := 100) (n := 100) (by decide) (Int32.not_lt.mpr h3.1) h3.2
  have hbd : b + d ≤ 100 := by
    rw [nI_add] at h4
    exact (nI_leI (b := 100) (by omega) (by decide)).mp h4
  have e1 : a * c ≤ 1000 * 1000 := Nat.mul_le_mul a1 c2
  have e2 : 1000 * d + 2 * b * c ≤ 200000 := by
    have : 2 * b * c ≤ 2 * b * 1000 := Nat.mul_le_mul_left _ c2
    omega
  have e3 : a * c * (1000 * d + 2 * b * c) ≤ 1000 * 1000 * 200000 := Nat.mul_le_mul e1 e2
  refine ⟨a * c * (1000 * d + 2 * b * c) / 100000000, ?_, ?_⟩
  · have := Nat.div_le_div_right (c := 100000000) e3
    exact Nat.le_trans this (by decide)
  · unfold vpx
    rw [c1, nI_l (by omega), nI_l (by omega), nI_l (by omega), show (1000 : Int64) = lN 1000 from rfl, show (2 : Int64) = lN 2 from rfl, show (100000000 : Int64) = lN 100000000 from rfl]
    simp only [lN_mul, lN_add]
    rw [pk_lDiv (by omega) (by decide) (by decide), lN_i]
section SHOWS
variable {sh : px_Sh} {M M' : px_M} {L : px_L} {R : px_R} {np nf nc ns m : Nat} {pa fp : Nat → Nat}
theorem pC_b (h : SailI sh M R np nf pa fp) (hH : HideI M nc ns) {i c : Nat} (hi : i < np) (hc : c < nc) (s : Int32) : ∃ a, a ≤ 2000 ∧ pC M pa s i c = nI a := by
  have hp := h.2.2.1 i hi
  have hco := hH.2.2.1 c hc
  unfold pC
  split
  · rw [hp.2.1.2.2.1]
    exact vpx_b _ hp.2.2.2 hco.2.2.1 hco.2.2.2.1 hco.2.2.2.2
  · exact ⟨0, by decide, rfl⟩
theorem hpV_b (h : SailI sh M R np nf pa fp) (hH : HideI M nc ns) {d : Nat → Nat} (s : Int32) : ∀ m, m ≤ np → (∀ i, i < m → d i < nc) → ∃ a, a ≤ 2000 * m ∧ hpV M pa m d s = nI a
  | 0, _, _ => ⟨0, by decide, rfl⟩
  | m + 1, hm, hd => by
    obtain ⟨a, a1, a2⟩ := hpV_b h hH s m (by omega) (fun i hi => hd i (by omega))
    obtain ⟨b, b1, b2⟩ := pC_b h hH (i := m) (c := d m) (by omega) (hd m (by omega)) s
    refine ⟨a + b, by omega, ?_⟩
    unfold hpV at a2 ⊢
    rw [Sg_succ, a2, b2, nI_add]
/-- the push of the hidden panels, with the coats of number v -/
def hN (M : px_M) (pa : Nat → Nat) (m nc e v : Nat) : Nat := (hpV M pa m (dgt (fun _ => nc) m v) (nI e - 8)).toNatClampNeg
theorem hN_b (h : SailI sh M R np nf pa fp) (hH : HideI M nc ns) (hm : m ≤ 4) (hmp : m ≤ np) (hnc : nc ≠ 0) (e v : Nat) : hN M pa m nc e v ≤ 8000 ∧ hpV M pa m (dgt (fun _ => nc) m v) (nI e - 8) = nI (hN M pa m nc e v) := by
  obtain ⟨a, a1, a2⟩ := hpV_b h hH (nI e - 8) m hmp (fun i hi => dgt_lt (sz := fun _ => nc) (fun _ => by omega) m v i hi)
  unfold hN
  rw [a2, nI_clamp (by omega)]
  exact ⟨by omega, rfl⟩
/-- unlike pushes among those of the numbers l, in their order -/
def DL (M : px_M) (pa : Nat → Nat) (m nc e : Nat) (l : List Nat) : List Nat := l.foldl (fun acc v => if acc.contains (hN M pa m nc e v) = true then acc else acc ++ [hN M pa m nc e v]) []
theorem DL_snoc (e : Nat) (l : List Nat) (v : Nat) : DL M pa m nc e (l ++ [v]) = if (DL M pa m nc e l).contains (hN M pa m nc e v) = true then DL M pa m nc e l else DL M pa m nc e l ++ [hN M pa m nc e v] := by
  unfold DL
  rw [List.foldl_append]
  rfl
theorem DL_len (e : Nat) : ∀ (k : Nat) (l : List Nat), l.length = k → (DL M pa m nc e l).length ≤ k
  | 0, l, h => by rw [List.eq_nil_of_length_eq_zero h]; exact Nat.le_refl _
  | k + 1, l, h => by
    have hne : l ≠ [] := fun q => by rw [q] at h; cases h
    obtain ⟨l', w, rfl⟩ : ∃ l' w, l = l' ++ [w] := ⟨l.dropLast, l.getLast hne, (List.dropLast_concat_getLast hne).symm⟩
    have ih := DL_len e k l' (by rw [List.length_append, List.length_singleton] at h; omega)
    rw [DL_snoc]
    split
    · omega
    · rw [List.length_append, List.length_singleton]; omega
theorem DL_lt (h : SailI sh M R np nf pa fp) (hH : HideI M nc ns) (hm : m ≤ 4) (hmp : m ≤ np) (hnc : nc ≠ 0) (e : Nat) : ∀ (k : Nat) (l : List Nat), l.length = k → ∀ x, x ∈ DL M pa m nc e l → x ≤ 8000
  | 0, l, hl, x, hx => by rw [List.eq_nil_of_length_eq_zero hl] at hx; exact absurd hx List.not_mem_nil
  | k + 1, l, hl, x, hx => by
    have hne : l ≠ [] := fun q => by rw [q] at hl; cases hl
    obtain ⟨l', w, rfl⟩ : ∃ l' w, l = l' ++ [w] := ⟨l.dropLast, l.getLast hne, (List.dropLast_concat_getLast hne).symm⟩
    have ih := DL_lt h hH hm hmp hnc e k l' (by rw [List.length_append, List.length_singleton] at hl; omega)
    rw [DL_snoc] at hx
    split at hx
    · exact ih x hx
    · rcases List.mem_append.mp hx with y | y
      · exact ih x y
      · rw [List.mem_singleton.mp y]; exact (hN_b h hH hm hmp hnc e w).1
/-- the marks hold the pushes of acc -/
def MkI (L : px_L) (acc : List Nat) : Prop := ∃ w : Nat → Nat, (∀ j, j < 126 → L 39 j = lN (w j) ∧ w j < 2 ^ 64) ∧ ∀ h, h < 8064 → ((w (h / 64)).testBit (h % 64) = true ↔ h ∈ acc)
theorem c_unlike (h : SailI sh M R np nf pa fp) (hH : HideI M nc ns) (hm : m ≤ 4) (hm1 : 1 ≤ m) (hmp : m ≤ np) (hnc : nc ≠ 0) {e : Nat} (he : e < 17) (hS : ShI M M' pa np m nc e) (hF : FdI M M' pa np m nc ns (nc ^ m)) :
    ∃ L2, f_X3_unlikePushes M' L (nI m) (nI e - 8) = some (nI (DL M pa m nc e (FL M pa np m nc ns (nc ^ m))).length, L2) ∧ ∀ c j, c ≠ 39 → L2 c j = L c j := by
  have n5 := hH.1.1
  have hTle : nc ^ m ≤ 625 := Nat.le_trans (Nat.pow_le_pow_left n5 m) (Nat.le_trans (Nat.pow_le_pow_right (by decide) hm) (by decide))
  have hlen := FL_len (M := M) (pa := pa) (np := np) (m := m) (nc := nc) (ns := ns) (nc ^ m)
  obtain ⟨F, hFd⟩ : ∃ F, F = FL M pa np m nc ns (nc ^ m) := ⟨_, rfl⟩
  unfold FdI at hF
  rw [← hFd] at hF hlen ⊢
  have K := lpf_for (body := fun a : Int32 × px_L => f_X3_unlikePushes_2 M' a.2 (nI m) (nI e - 8) a.1) (fun i (L' : px_L) => (nI i, L')) (fun i L' => px_u L' 39 i 0)
    (fun k L' => (∀ c j, c ≠ 39 → L' c j = L c j) ∧ ∀ j, j < k → L' 39 j = 0) (fun L' => L') 126
    (fun i Lx hi hP => by
      obtain ⟨p1, p2⟩ := hP
      refine ⟨?_, fun c j c1 => by rw [pu_n (by omega)]; exact p1 c j c1, fun g hg => ?_⟩
      · show f_X3_unlikePushes_2 M' Lx (nI m) (nI e - 8) (nI i) = _
        unfold f_X3_unlikePushes_2
        rw [if_neg (show ¬ 126 ≤ nI i from nI_ge (b := 126) hi (by decide)), ok_t (ix_k hi (by decide)), nI_clamp (by omega), nm_u, nI_1]
      · by_cases e : g = i
        · subst e; exact px_u_in _ _ _ _
        · rw [pu_n (by omega)]; exact p2 g (by omega))
    (fun Lx _ => by
      show f_X3_unlikePushes_2 M' Lx (nI m) (nI e - 8) (nI 126) = _
      unfold f_X3_unlikePushes_2
      rw [if_pos (by decide)]) 126 0 L (by omega) ⟨fun _ _ _ => rfl, fun j hj => absurd hj (by omega)⟩
  obtain ⟨k1, k2, k3⟩ := K
  obtain ⟨La, hLa⟩ : ∃ La, La = fld (fun i (L' : px_L) => px_u L' 39 i (0 : Int64)) 0 126 L := ⟨_, rfl⟩
  rw [← hLa] at k1 k2 k3
  have hd : ∀ v i, i < m → dgt (fun _ => nc) m v i < nc := fun v i hi => dgt_lt (sz := fun _ => nc) (fun _ => by omega) m v i hi
  have hloop : ∀ (k i : Nat) (Lx : px_L), i + k = F.length → (∀ c j, c ≠ 39 → Lx c j = L c j) → MkI Lx (DL M pa m nc e (F.take i)) → ∃ L2, lpf (fun a : Int32 × Int32 × px_L => f_X3_unlikePushes_26 M' a.2.2 (nI m) (nI e - 8) a.1 a.2.1) (nI (DL M pa m nc e (F.take i)).length, nI i, Lx) = some (nI (DL M pa m nc e F).length, L2) ∧ ∀ c j, c ≠ 39 → L2 c j = L c j := by
    intro k
    induction k with
    | zero =>
      intro i Lx hi q1 q2
      obtain rfl : i = F.length := by omega
      refine ⟨Lx, ?_, q1⟩
      rw [List.take_length]
      apply lpf_end
      show f_X3_unlikePushes_26 M' Lx (nI m) (nI e - 8) _ (nI F.length) = _
      unfold f_X3_unlikePushes_26
      rw [hF.1, if_pos (Int32.le_refl _)]
    | succ k ih =>
      intro i Lx hi q1 q2
      obtain ⟨v, hv⟩ : ∃ v, v = F.getD i 0 := ⟨_, rfl⟩
      have htk : F.take (i + 1) = F.take i ++ [v] := by
        rw [List.take_succ, hv, List.getD_eq_getElem?_getD, List.getElem?_eq_getElem (by omega)]
        rfl
      obtain ⟨b1, b2'⟩ := hN_b h hH hm hmp hnc e v
      obtain ⟨x, hx⟩ : ∃ x, x = hN M pa m nc e v := ⟨_, rfl⟩
      rw [← hx] at b1 b2'
      have hhp : f_X3_hiddenPush M' (M' 38 i) (nI m) (nI e - 8) = some (nI x) := by
        rw [hF.2 i (by omega), ← hv, c_hidden hm n5 (hd v) he hS, b2']
      obtain ⟨w, w1, w2⟩ := q2
      have hx64 : x / 64 < 126 := by omega
      obtain ⟨w1a, w1b⟩ := w1 (x / 64) hx64
      have hp2 : 2 ^ (x % 64) < 2 ^ 64 := Nat.pow_lt_pow_right (by decide) (Nat.mod_lt _ (by decide))
      have t1 : (1 : Int64) <<< (((nI x &&& 63)).toInt64 &&& 63) = lN (2 ^ (x % 64)) := by
        rw [pk_andN (m := 63) (by omega) 6 (by decide), show (1 : Int64) = lN 1 from rfl, wb_shl 1 (Nat.mod_lt _ (by decide)), Nat.one_mul]
      have t2 : nI x >>> (6 &&& 31) = nI (x / 64) := pk_shrN (by omega) (6 &&& 31) 6 (by decide)
      have t3 : f_X11_within (nI (x / 64)) 0 125 = some 1 := by
        rw [e_within, bI_t ⟨nI_pos' (by omega), nI_le (b := 125) (by omega) (by decide)⟩]
      have t4 : (lg_cmp (lN (w (x / 64)) &&& lN (2 ^ (x % 64))) 0 = 0) ↔ (w (x / 64)).testBit (x % 64) = false := by
        rw [lg_cmp_eq, wb_and w1b hp2, show (0 : Int64) = lN 0 from rfl, wb_eq (Nat.lt_of_le_of_lt Nat.and_le_left w1b) (by decide), and_pow]
      have hmem : (DL M pa m nc e (F.take i)).contains x = (w (x / 64)).testBit (x % 64) := by
        rw [Bool.eq_iff_iff, List.contains_iff_mem, w2 x (by omega)]
      have hbody : ∃ L2, f_X3_unlikePushes_26 M' Lx (nI m) (nI e - 8) (nI (DL M pa m nc e (F.take i)).length) (nI i) = some (.inl (nI (DL M pa m nc e (F.take (i + 1))).length, nI (i + 1), L2)) ∧ (∀ c j, c ≠ 39 → L2 c j = L c j) ∧ MkI L2 (DL M pa m nc e (F.take (i + 1))) := by
        unfold f_X3_unlikePushes_26 f_X3_unlikePushes_109
        rw [hF.1, if_neg (nI_ge (by omega) (by omega)), ok_t (ix_k (show i < 625 by omega) (by decide)), nI_clamp (by omega), hhp, bd1_e, t1, nm_u, t2, t3, bd1_e, if_neg (by decide), nm_u, ok_t (ix_k hx64 (by decide)), nI_clamp (by omega), w1a, ifi t4, nI_1, htk, DL_snoc, ← hx, hmem]
        by_cases q : (w (x / 64)).testBit (x % 64) = true
        · rw [if_neg (by rw [q]; decide), if_pos q]
          exact ⟨Lx, by rw [nI_1], q1, w, w1, w2⟩
        · rw [if_pos (Bool.eq_false_iff.mpr q), if_neg q, nm_u, ok_t (ix_k hx64 (by decide)), nI_clamp (by omega), w1a, nm_u, ok_t (ix_k hx64 (by decide)), nm_u, wb_or w1b hp2, nI_1, List.length_append, List.length_singleton]
          refine ⟨px_u Lx 39 (x / 64) (lN (w (x / 64) ||| 2 ^ (x % 64))), rfl, fun c j hc => by rw [pu_n (by omega)]; exact q1 c j hc, fun j => if j = x / 64 then w j ||| 2 ^ (x % 64) else w j, fun j hj => ?_, fun y hy => ?_⟩
          · by_cases e2 : j = x / 64
            · simp only [e2, if_true]
              exact ⟨px_u_in _ _ _ _, Nat.or_lt_two_pow w1b hp2⟩
            · simp only [e2, if_false]
              rw [pu_n (by omega)]; exact w1 j hj
          · rw [List.mem_append, List.mem_singleton, ← w2 y hy]
            by_cases e2 : y / 64 = x / 64
            · simp only [e2, if_true]
              rw [tb_or]
              by_cases e3 : x % 64 = y % 64
              · have : y = x := by omega
                subst this
                simp
              · have : y ≠ x := fun z => e3 (by rw [z])
                simp [e3, this]
            · simp only [e2, if_false]
              have : y ≠ x := fun z => e2 (by rw [z])
              simp [this]
      obtain ⟨L2, r1, r2, r3⟩ := hbody
      rw [lpf_go (body := fun a : Int32 × Int32 × px_L => f_X3_unlikePushes_26 M' a.2.2 (nI m) (nI e - 8) a.1 a.2.1) (a := (nI (DL M pa m nc e (F.take i)).length, nI i, Lx)) r1]
      exact ih (i + 1) L2 (by omega) r2 r3
  obtain ⟨L2, r1, r2⟩ := hloop F.length 0 La (by omega) k2 ⟨fun _ => 0, fun j hj => ⟨by rw [k3 j hj]; rfl, show (0 : Nat) < 2 ^ 64 by decide⟩, fun h hh => by
    rw [Nat.zero_testBit]
    simp [DL]⟩
  refine ⟨L2, ?_, r2⟩
  unfold f_X3_unlikePushes
  rw [show lpf (fun a : Int32 × px_L => f_X3_unlikePushes_2 M' a.2 (nI m) (nI e - 8) a.1) (0, L) = _ from k1, bd1_e, show lpf (fun a : Int32 × Int32 × px_L => f_X3_unlikePushes_26 M' a.2.2 (nI m) (nI e - 8) a.1 a.2.1) (0, 0, La) = _ from r1, bd1_e]
end SHOWS
