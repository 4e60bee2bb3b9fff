/-! the chart: its layers, as the class works them -/
theorem stp_b {s r : Nat} (hs : s ≤ 20) : 1 ≤ stp s r ∧ stp s r ≤ 21 := by
  unfold stp
  have : s * 32 / (r + 32) ≤ 20 := Nat.le_trans (Nat.div_le_div_left (by omega : 32 ≤ r + 32) (by decide)) (by omega)
  exact ⟨Nat.le_add_right 1 _, Nat.add_le_add_left this 1⟩
theorem trn_b (r : Nat) : 1 ≤ trn r ∧ trn r ≤ 11 := by
  unfold trn
  have : 320 / (r + 32) ≤ 10 := Nat.le_trans (Nat.div_le_div_left (by omega : 32 ≤ r + 32) (by decide)) (by decide)
  exact ⟨Nat.le_add_right 1 _, Nat.add_le_add_left this 1⟩
theorem nz32 {r : Nat} (hr : r ≤ 255) : nz (nI r + 32) 0 = true := nz_t (by rw [show (32 : Int32) = nI 32 from rfl, nI_add]; exact nI_eq' (b := 0) (by omega) (by decide) (by omega))
theorem e_step2 {r s : Nat} (hr : r ≤ 255) (hs : s ≤ 20) : f_X12_stepsAt (nI r) (nI s) = some (nI (stp s r)) := by
  unfold f_X12_stepsAt stp
  rw [ok_t (nz32 hr), show (32 : Int32) = nI 32 from rfl, nI_add, pk_mul, pk_div (by omega) (by omega) (by omega), show (1 : Int32) = nI 1 from rfl, nI_add]
theorem e_step {r s : Nat} (hr : r ≤ 255) (hs : s ≤ 20) : f_X11_stepsAt (nI r) (nI s) = some (nI (stp s r)) := by
  unfold f_X11_stepsAt f_X11_stepsAt_19 stp
  rw [if_pos (nI_pos' (by omega)), ok_t (nz32 hr), show (32 : Int32) = nI 32 from rfl, nI_add, pk_mul, pk_div (by omega) (by omega) (by omega), show (1 : Int32) = nI 1 from rfl, nI_add]
theorem e_turn {r : Nat} (hr : r ≤ 255) : f_X11_turnOfDay (nI r) = some (nI (trn r)) := by
  unfold f_X11_turnOfDay f_X11_turnOfDay_18 trn
  rw [if_pos (nI_pos' (by omega)), ok_t (nz32 hr), show (32 : Int32) = nI 32 from rfl, nI_add, show (320 : Int32) = nI 320 from rfl, pk_div (by omega) (by omega) (by omega), show (1 : Int32) = nI 1 from rfl, nI_add]
theorem fm_neg : ∀ k, k < 73 → f_J9_floorMod_7cf53 (0 - nI k) 72 = some (nI ((72 - k) % 72)) := by decide +kernel
theorem e_fm {a b : Nat} (ha : a < 2 ^ 30) (h : b ≤ a + 72) : f_J9_floorMod_7cf53 (nI a - nI b) 72 = some (nI ((a + 72 - b) % 72)) := by
  by_cases q : b ≤ a
  · rw [pk_sub q, show a + 72 - b = a - b + 72 by omega, Nat.add_mod_right]
    unfold f_J9_floorMod_7cf53 f_J9_floorMod_7cf53_18
    have hx : (a - b) ^^^ 72 < 2 ^ 31 := Nat.xor_lt_two_pow (by omega) (by decide)
    rw [ok_t (nz_t (by decide)), show (72 : Int32) = nI 72 from rfl, xorI, pk_rem (by omega) (by decide) (by decide), nm_u, if_pos (nI_pos' hx)]
  · have : nI a - nI b = 0 - nI (b - a) := by
      rw [show nI b = nI a + nI (b - a) by rw [nI_add]; congr 1; omega]
      grind
    rw [this, fm_neg _ (by omega), show 72 - (b - a) = a + 72 - b by omega]
theorem wb_sar {n k : Nat} (hn : n < 2 ^ 63) (hk : k < 64) : lN n >>> ((nI k).toInt64 &&& 63) = lN (n / 2 ^ k) := by
  rw [wb_c k hk]
  apply Int64.toInt_inj.mp
  have h2 : n / 2 ^ k ≤ n := Nat.div_le_self _ _
  rw [pk_lT (Nat.lt_of_le_of_lt h2 hn)]
  show ((lN n).toBitVec.sshiftRight ((lN k).toBitVec.smod 64).toNat).toInt = _
  rw [wb_tb k, wb_sm k hk, BitVec.toInt_sshiftRight, BitVec.toNat_ofNat, Nat.mod_eq_of_lt (by omega)]
  show (lN n).toInt >>> k = _
  rw [pk_lT hn, Int.shiftRight_eq_div_pow]
  rfl
theorem wb_bit {n k : Nat} (hn : n < 2 ^ 63) (hk : k < 64) : (lg_cmp ((lN n >>> ((nI k).toInt64 &&& 63)) &&& 1) 1 = 0) ↔ n.testBit k = true := by
  have h2 : n / 2 ^ k ≤ n := Nat.div_le_self _ _
  rw [lg_cmp_eq, wb_sar hn hk, show (1 : Int64) = lN (2 ^ 1 - 1) from rfl, wb_mask (by omega) (by decide), wb_eq (by have := Nat.mod_lt (n / 2 ^ k) (show 0 < 2 ^ 1 by decide); omega) (by decide), tb_iff]
theorem rot_tb {x y t h : Nat} (hy : y < 2 ^ 36) (ht : t < 36) (hh : h < 36) : (((x * 2 ^ t % 2 ^ 64) ||| (y / 2 ^ (36 - t))) % 2 ^ 36).testBit h = if t ≤ h then x.testBit (h - t) else y.testBit (h + 36 - t) := by
  rw [Nat.testBit_mod_two_pow, Nat.testBit_or, Nat.testBit_mod_two_pow, Nat.testBit_mul_two_pow, Nat.testBit_div_two_pow]
  by_cases q : t ≤ h
  · have h3 : y.testBit (36 - t + h) = false := Nat.testBit_lt_two_pow (Nat.lt_of_lt_of_le hy (Nat.pow_le_pow_right (by decide) (by omega)))
    have h4 : y.testBit (h + (36 - t)) = false := by rw [Nat.add_comm]; exact h3
    simp [hh, q, show h < 64 by omega, h3, h4]
  · have h5 : h + 36 - t = h + (36 - t) := by omega
    have h6 : h + (36 - t) = 36 - t + h := by omega
    simp [hh, q, h5, h6]
/-- 72 bits in two halves -/
def tb2 (x y h : Nat) : Bool := if h < 36 then x.testBit h else y.testBit (h - 36)
section CHART
variable {sh : px_Sh} {M : px_M} {L : px_L} {R : px_R} {a b wr ws s : Nat}
theorem c_turned (ha : sh a = some (1, 0)) (hR : R a 3 = some b) (hb : sh b = some (14, 20992)) {k x y t : Nat} (hk : k + 1 < 20992) (hx : x < 2 ^ 36) (hy : y < 2 ^ 36) (ht : t < 72) :
    ∃ X Y, X < 2 ^ 36 ∧ Y < 2 ^ 36 ∧ f_X1_storeTurned sh L R a (nI k) (lN x) (lN y) (nI t) = some (px_u (px_u L b k (lN X)) b (k + 1) (lN Y)) ∧ ∀ h, h < 72 → tb2 X Y h = tb2 x y ((h + 72 - t) % 72) := by
  have core : ∀ (x y t : Nat), x < 2 ^ 36 → y < 2 ^ 36 → t < 36 → f_X1_storeTurned_55 sh L R a (nI k) (nI t) (lN x) (lN y) = some (px_u (px_u L b k (lN (((x * 2 ^ t % 2 ^ 64) ||| (y / 2 ^ (36 - t))) % 2 ^ 36))) b (k + 1) (lN (((y * 2 ^ t % 2 ^ 64) ||| (x / 2 ^ (36 - t))) % 2 ^ 36))) := by
    intro x y t hx hy ht
    have one : ∀ x y : Nat, y < 2 ^ 36 → ((lN x <<< ((nI t).toInt64 &&& 63)) ||| (((lN y).toUInt64 >>> (((36 - nI t)).toInt64.toUInt64 &&& Int64.toUInt64 63)).toInt64)) &&& 68719476735 = lN (((x * 2 ^ t % 2 ^ 64) ||| (y / 2 ^ (36 - t))) % 2 ^ 36) := by
      intro x y hy
      have h1 : y / 2 ^ (36 - t) < 2 ^ 64 := Nat.lt_of_le_of_lt (Nat.div_le_self _ _) (by omega)
      rw [show (36 : Int32) = nI 36 from rfl, pk_sub (by omega), wb_shl x (by omega), wb_shr (by omega) (by omega), wb_mod (x * 2 ^ t), wb_or (Nat.mod_lt _ (by decide)) h1, show (68719476735 : Int64) = lN (2 ^ 36 - 1) from rfl, wb_mask (Nat.or_lt_two_pow (Nat.mod_lt _ (by decide)) h1) (by decide)]
    unfold f_X1_storeTurned_55
    rw [ok_t (hk_t ha), hR, bd1_e, one x y hy, nm_u, ok_t (xk_t hb (ix_k (show k < 20992 by omega) (by decide))), nm_u, ok_t (hk_t ha), bd1_e, one y x hx, nm_u, nI_1, ok_t (xk_t hb (ix_k hk (by decide))), nm_u, nI_clamp (by omega), nI_clamp (by omega)]
  unfold f_X1_storeTurned f_X1_storeTurned_12 f_X1_storeTurned_29 f_X1_storeTurned_42
  by_cases q : t < 36
  · refine ⟨((x * 2 ^ t % 2 ^ 64) ||| (y / 2 ^ (36 - t))) % 2 ^ 36, ((y * 2 ^ t % 2 ^ 64) ||| (x / 2 ^ (36 - t))) % 2 ^ 36, Nat.mod_lt _ (by decide), Nat.mod_lt _ (by decide), ?_, fun h hh => ?_⟩
    · rw [if_pos (show nI t < 36 from nI_lt (b := 36) q (by decide)), if_pos rfl, if_pos rfl, if_pos rfl, core x y t hx hy q]
    · unfold tb2
      by_cases q2 : h < 36
      · rw [if_pos q2, rot_tb hy q q2]
        by_cases q3 : t ≤ h
        · have e : (h + 72 - t) % 72 = h - t := by omega
          rw [if_pos q3, e, if_pos (by omega)]
        · have e : (h + 72 - t) % 72 = h + 72 - t := by omega
          rw [if_neg q3, e, if_neg (by omega)]
          congr 1; omega
      · rw [if_neg q2, rot_tb hx q (by omega)]
        by_cases q3 : t ≤ h - 36
        · have e : (h + 72 - t) % 72 = h - t := by omega
          rw [if_pos q3, e, if_neg (by omega)]
          congr 1; omega
        · have e : (h + 72 - t) % 72 = h - t := by omega
          rw [if_neg q3, e, if_pos (by omega)]
          congr 1; omega
  · refine ⟨((y * 2 ^ (t - 36) % 2 ^ 64) ||| (x / 2 ^ (36 - (t - 36)))) % 2 ^ 36, ((x * 2 ^ (t - 36) % 2 ^ 64) ||| (y / 2 ^ (36 - (t - 36)))) % 2 ^ 36, Nat.mod_lt _ (by decide), Nat.mod_lt _ (by decide), ?_, fun h hh => ?_⟩
    · rw [if_neg (show ¬ nI t < 36 from by rw [show (36 : Int32) = nI 36 from rfl, nI_ltI (by omega) (by decide)]; omega), if_neg (by decide), if_neg (by decide), if_neg (by decide), show (36 : Int32) = nI 36 from rfl, pk_sub (by omega), core y x (t - 36) hy hx (by omega)]
    · unfold tb2
      by_cases q2 : h < 36
      · rw [if_pos q2, rot_tb hx (by omega) q2]
        by_cases q3 : t - 36 ≤ h
        · have e : (h + 72 - t) % 72 = h + 72 - t := by omega
          rw [if_pos q3, e, if_neg (by omega)]
          congr 1; omega
        · have e : (h + 72 - t) % 72 = h + 72 - t := by omega
          rw [if_neg q3, e, if_pos (by omega)]
          congr 1; omega
      · rw [if_neg q2, rot_tb hy (by omega) (by omega)]
        by_cases q3 : t - 36 ≤ h - 36
        · have e : (h + 72 - t) % 72 = h - t := by omega
          rw [if_pos q3, e, if_pos (by omega)]
          congr 1; omega
        · have e : (h + 72 - t) % 72 = h + 72 - t := by omega
          rw [if_neg q3, e, if_neg (by omega)]
          congr 1; omega
end CHART
