/-! the class reads one sign of a text -/
def chL : List Nat := [105, 110, 32, 32, 32, 107, 101, 101, 112, 32, 111, 117, 116, 32, 32, 105, 102, 32, 32, 32, 111, 114, 32, 32, 32, 97, 110, 100, 32, 32, 110, 111, 116, 32, 32, 114, 104, 111, 32, 32, 97, 110, 103, 108, 101, 100, 97, 121, 32, 32, 102, 97, 114, 32, 32, 108, 101, 97, 100, 32, 115, 116, 101, 112, 115, 116, 111, 114, 110, 32, 108, 101, 97, 115, 116, 109, 111, 115, 116, 32]
theorem chL_ok : ∀ k, k < 80 → px_ch k = nI (chL.getD k 0) := by decide +kernel
theorem chL_lt : ∀ k, k < 80 → chL.getD k 0 < 256 := by decide +kernel
def sg (l i d : Nat) : Nat := if i < l then d else 32
def cd5 (l d0 d1 d2 d3 d4 : Nat) : Nat := if l = 0 then 0 else if l = 1 then d0 - 96 else if l = 2 then 27 * (d0 - 96) + (d1 - 96) else if l = 3 then 27 * (27 * (d0 - 96) + (d1 - 96)) + (d2 - 96) else if l = 4 then 27 * (27 * (27 * (d0 - 96) + (d1 - 96)) + (d2 - 96)) + (d3 - 96) else 27 * (27 * (27 * (27 * (d0 - 96) + (d1 - 96)) + (d2 - 96)) + (d3 - 96)) + (d4 - 96)
theorem wm_0 (l d0 d1 d2 d3 d4 : Nat) (hl : l ≤ 5) (h0 : 0 < l → 97 ≤ d0 ∧ d0 ≤ 122) (h1 : 1 < l → 97 ≤ d1 ∧ d1 ≤ 122) (h2 : 2 < l → 97 ≤ d2 ∧ d2 ≤ 122) (h3 : 3 < l → 97 ≤ d3 ∧ d3 ≤ 122) (h4 : 4 < l → 97 ≤ d4 ∧ d4 ≤ 122) : ((sg l 0 d0 = 105 ∧ sg l 1 d1 = 110 ∧ sg l 2 d2 = 32 ∧ sg l 3 d3 = 32 ∧ sg l 4 d4 = 32) ↔ cd5 l d0 d1 d2 d3 d4 = 257) := by
  unfold sg cd5
  obtain rfl | rfl | rfl | rfl | rfl | rfl : l = 0 ∨ l = 1 ∨ l = 2 ∨ l = 3 ∨ l = 4 ∨ l = 5 := by omega
  all_goals (first | (simp; done) | (simp; omega))
theorem wm_1 (l d0 d1 d2 d3 d4 : Nat) (hl : l ≤ 5) (h0 : 0 < l → 97 ≤ d0 ∧ d0 ≤ 122) (h1 : 1 < l → 97 ≤ d1 ∧ d1 ≤ 122) (h2 : 2 < l → 97 ≤ d2 ∧ d2 ≤ 122) (h3 : 3 < l → 97 ≤ d3 ∧ d3 ≤ 122) (h4 : 4 < l → 97 ≤ d4 ∧ d4 ≤ 122) : ((sg l 0 d0 = 107 ∧ sg l 1 d1 = 101 ∧ sg l 2 d2 = 101 ∧ sg l 3 d3 = 112 ∧ sg l 4 d4 = 32) ↔ cd5 l d0 d1 d2 d3 d4 = 220309) := by
  unfold sg cd5
  obtain rfl | rfl | rfl | rfl | rfl | rfl : l = 0 ∨ l = 1 ∨ l = 2 ∨ l = 3 ∨ l = 4 ∨ l = 5 := by omega
  all_goals (first | (simp; done) | (simp; omega))
theorem wm_2 (l d0 d1 d2 d3 d4 : Nat) (hl : l ≤ 5) (h0 : 0 < l → 97 ≤ d0 ∧ d0 ≤ 122) (h1 : 1 < l → 97 ≤ d1 ∧ d1 ≤ 122) (h2 : 2 < l → 97 ≤ d2 ∧ d2 ≤ 122) (h3 : 3 < l → 97 ≤ d3 ∧ d3 ≤ 122) (h4 : 4 < l → 97 ≤ d4 ∧ d4 ≤ 122) : ((sg l 0 d0 = 111 ∧ sg l 1 d1 = 117 ∧ sg l 2 d2 = 116 ∧ sg l 3 d3 = 32 ∧ sg l 4 d4 = 32) ↔ cd5 l d0 d1 d2 d3 d4 = 11522) := by
  unfold sg cd5
  obtain rfl | rfl | rfl | rfl | rfl | rfl : l = 0 ∨ l = 1 ∨ l = 2 ∨ l = 3 ∨ l = 4 ∨ l = 5 := by omega
  all_goals (first | (simp; done) | (simp; omega))
theorem wm_3 (l d0 d1 d2 d3 d4 : Nat) (hl : l ≤ 5) (h0 : 0 < l → 97 ≤ d0 ∧ d0 ≤ 122) (h1 : 1 < l → 97 ≤ d1 ∧ d1 ≤ 122) (h2 : 2 < l → 97 ≤ d2 ∧ d2 ≤ 122) (h3 : 3 < l → 97 ≤ d3 ∧ d3 ≤ 122) (h4 : 4 < l → 97 ≤ d4 ∧ d4 ≤ 122) : ((sg l 0 d0 = 105 ∧ sg l 1 d1 = 102 ∧ sg l 2 d2 = 32 ∧ sg l 3 d3 = 32 ∧ sg l 4 d4 = 32) ↔ cd5 l d0 d1 d2 d3 d4 = 249) := by
  unfold sg cd5
  obtain rfl | rfl | rfl | rfl | rfl | rfl : l = 0 ∨ l = 1 ∨ l = 2 ∨ l = 3 ∨ l = 4 ∨ l = 5 := by omega
  all_goals (first | (simp; done) | (simp; omega))
theorem wm_4 (l d0 d1 d2 d3 d4 : Nat) (hl : l ≤ 5) (h0 : 0 < l → 97 ≤ d0 ∧ d0 ≤ 122) (h1 : 1 < l → 97 ≤ d1 ∧ d1 ≤ 122) (h2 : 2 < l → 97 ≤ d2 ∧ d2 ≤ 122) (h3 : 3 < l → 97 ≤ d3 ∧ d3 ≤ 122) (h4 : 4 < l → 97 ≤ d4 ∧ d4 ≤ 122) : ((sg l 0 d0 = 111 ∧ sg l 1 d1 = 114 ∧ sg l 2 d2 = 32 ∧ sg l 3 d3 = 32 ∧ sg l 4 d4 = 32) ↔ cd5 l d0 d1 d2 d3 d4 = 423) := by
  unfold sg cd5
  obtain rfl | rfl | rfl | rfl | rfl | rfl : l = 0 ∨ l = 1 ∨ l = 2 ∨ l = 3 ∨ l = 4 ∨ l = 5 := by omega
  all_goals (first | (simp; done) | (simp; omega))
theorem wm_5 (l d0 d1 d2 d3 d4 : Nat) (hl : l ≤ 5) (h0 : 0 < l → 97 ≤ d0 ∧ d0 ≤ 122) (h1 : 1 < l → 97 ≤ d1 ∧ d1 ≤ 122) (h2 : 2 < l → 97 ≤ d2 ∧ d2 ≤ 122) (h3 : 3 < l → 97 ≤ d3 ∧ d3 ≤ 122) (h4 : 4 < l → 97 ≤ d4 ∧ d4 ≤ 122) : ((sg l 0 d0 = 97 ∧ sg l 1 d1 = 110 ∧ sg l 2 d2 = 100 ∧ sg l 3 d3 = 32 ∧ sg l 4 d4 = 32) ↔ cd5 l d0 d1 d2 d3 d4 = 1111) := by
  unfold sg cd5
  obtain rfl | rfl | rfl | rfl | rfl | rfl : l = 0 ∨ l = 1 ∨ l = 2 ∨ l = 3 ∨ l = 4 ∨ l = 5 := by omega
  all_goals (first | (simp; done) | (simp; omega))
theorem wm_6 (l d0 d1 d2 d3 d4 : Nat) (hl : l ≤ 5) (h0 : 0 < l → 97 ≤ d0 ∧ d0 ≤ 122) (h1 : 1 < l → 97 ≤ d1 ∧ d1 ≤ 122) (h2 : 2 < l → 97 ≤ d2 ∧ d2 ≤ 122) (h3 : 3 < l → 97 ≤ d3 ∧ d3 ≤ 122) (h4 : 4 < l → 97 ≤ d4 ∧ d4 ≤ 122) : ((sg l 0 d0 = 110 ∧ sg l 1 d1 = 111 ∧ sg l 2 d2 = 116 ∧ sg l 3 d3 = 32 ∧ sg l 4 d4 = 32) ↔ cd5 l d0 d1 d2 d3 d4 = 10631) := by
  unfold sg cd5
  obtain rfl | rfl | rfl | rfl | rfl | rfl : l = 0 ∨ l = 1 ∨ l = 2 ∨ l = 3 ∨ l = 4 ∨ l = 5 := by omega
  all_goals (first | (simp; done) | (simp; omega))
theorem wm_7 (l d0 d1 d2 d3 d4 : Nat) (hl : l ≤ 5) (h0 : 0 < l → 97 ≤ d0 ∧ d0 ≤ 122) (h1 : 1 < l → 97 ≤ d1 ∧ d1 ≤ 122) (h2 : 2 < l → 97 ≤ d2 ∧ d2 ≤ 122) (h3 : 3 < l → 97 ≤ d3 ∧ d3 ≤ 122) (h4 : 4 < l → 97 ≤ d4 ∧ d4 ≤ 122) : ((sg l 0 d0 = 114 ∧ sg l 1 d1 = 104 ∧ sg l 2 d2 = 111 ∧ sg l 3 d3 = 32 ∧ sg l 4 d4 = 32) ↔ cd5 l d0 d1 d2 d3 d4 = 13353) := by
  unfold sg cd5
  obtain rfl | rfl | rfl | rfl | rfl | rfl : l = 0 ∨ l = 1 ∨ l = 2 ∨ l = 3 ∨ l = 4 ∨ l = 5 := by omega
  all_goals (first | (simp; done) | (simp; omega))
theorem wm_8 (l d0 d1 d2 d3 d4 : Nat) (hl : l ≤ 5) (h0 : 0 < l → 97 ≤ d0 ∧ d0 ≤ 122) (h1 : 1 < l → 97 ≤ d1 ∧ d1 ≤ 122) (h2 : 2 < l → 97 ≤ d2 ∧ d2 ≤ 122) (h3 : 3 < l → 97 ≤ d3 ∧ d3 ≤ 122) (h4 : 4 < l → 97 ≤ d4 ∧ d4 ≤ 122) : ((sg l 0 d0 = 97 ∧ sg l 1 d1 = 110 ∧ sg l 2 d2 = 103 ∧ sg l 3 d3 = 108 ∧ sg l 4 d4 = 101) ↔ cd5 l d0 d1 d2 d3 d4 = 812435) := by
  unfold sg cd5
  obtain rfl | rfl | rfl | rfl | rfl | rfl : l = 0 ∨ l = 1 ∨ l = 2 ∨ l = 3 ∨ l = 4 ∨ l = 5 := by omega
  all_goals (first | (simp; done) | (simp; omega))
theorem wm_9 (l d0 d1 d2 d3 d4 : Nat) (hl : l ≤ 5) (h0 : 0 < l → 97 ≤ d0 ∧ d0 ≤ 122) (h1 : 1 < l → 97 ≤ d1 ∧ d1 ≤ 122) (h2 : 2 < l → 97 ≤ d2 ∧ d2 ≤ 122) (h3 : 3 < l → 97 ≤ d3 ∧ d3 ≤ 122) (h4 : 4 < l → 97 ≤ d4 ∧ d4 ≤ 122) : ((sg l 0 d0 = 100 ∧ sg l 1 d1 = 97 ∧ sg l 2 d2 = 121 ∧ sg l 3 d3 = 32 ∧ sg l 4 d4 = 32) ↔ cd5 l d0 d1 d2 d3 d4 = 2968) := by
  unfold sg cd5
  obtain rfl | rfl | rfl | rfl | rfl | rfl : l = 0 ∨ l = 1 ∨ l = 2 ∨ l = 3 ∨ l = 4 ∨ l = 5 := by omega
  all_goals (first | (simp; done) | (simp; omega))
theorem wm_10 (l d0 d1 d2 d3 d4 : Nat) (hl : l ≤ 5) (h0 : 0 < l → 97 ≤ d0 ∧ d0 ≤ 122) (h1 : 1 < l → 97 ≤ d1 ∧ d1 ≤ 122) (h2 : 2 < l → 97 ≤ d2 ∧ d2 ≤ 122) (h3 : 3 < l → 97 ≤ d3 ∧ d3 ≤ 122) (h4 : 4 < l → 97 ≤ d4 ∧ d4 ≤ 122) : ((sg l 0 d0 = 102 ∧ sg l 1 d1 = 97 ∧ sg l 2 d2 = 114 ∧ sg l 3 d3 = 32 ∧ sg l 4 d4 = 32) ↔ cd5 l d0 d1 d2 d3 d4 = 4419) := by
  unfold sg cd5
  obtain rfl | rfl | rfl | rfl | rfl | rfl : l = 0 ∨ l = 1 ∨ l = 2 ∨ l = 3 ∨ l = 4 ∨ l = 5 := by omega
  all_goals (first | (simp; done) | (simp; omega))
theorem wm_11 (l d0 d1 d2 d3 d4 : Nat) (hl : l ≤ 5) (h0 : 0 < l → 97 ≤ d0 ∧ d0 ≤ 122) (h1 : 1 < l → 97 ≤ d1 ∧ d1 ≤ 122) (h2 : 2 < l → 97 ≤ d2 ∧ d2 ≤ 122) (h3 : 3 < l → 97 ≤ d3 ∧ d3 ≤ 122) (h4 : 4 < l → 97 ≤ d4 ∧ d4 ≤ 122) : ((sg l 0 d0 = 108 ∧ sg l 1 d1 = 101 ∧ sg l 2 d2 = 97 ∧ sg l 3 d3 = 100 ∧ sg l 4 d4 = 32) ↔ cd5 l d0 d1 d2 d3 d4 = 239872) := by
  unfold sg cd5
  obtain rfl | rfl | rfl | rfl | rfl | rfl : l = 0 ∨ l = 1 ∨ l = 2 ∨ l = 3 ∨ l = 4 ∨ l = 5 := by omega
  all_goals (first | (simp; done) | (simp; omega))
theorem wm_12 (l d0 d1 d2 d3 d4 : Nat) (hl : l ≤ 5) (h0 : 0 < l → 97 ≤ d0 ∧ d0 ≤ 122) (h1 : 1 < l → 97 ≤ d1 ∧ d1 ≤ 122) (h2 : 2 < l → 97 ≤ d2 ∧ d2 ≤ 122) (h3 : 3 < l → 97 ≤ d3 ∧ d3 ≤ 122) (h4 : 4 < l → 97 ≤ d4 ∧ d4 ≤ 122) : ((sg l 0 d0 = 115 ∧ sg l 1 d1 = 116 ∧ sg l 2 d2 = 101 ∧ sg l 3 d3 = 112 ∧ sg l 4 d4 = 115) ↔ cd5 l d0 d1 d2 d3 d4 = 10495135) := by
  unfold sg cd5
  obtain rfl | rfl | rfl | rfl | rfl | rfl : l = 0 ∨ l = 1 ∨ l = 2 ∨ l = 3 ∨ l = 4 ∨ l = 5 := by omega
  all_goals (first | (simp; done) | (simp; omega))
theorem wm_13 (l d0 d1 d2 d3 d4 : Nat) (hl : l ≤ 5) (h0 : 0 < l → 97 ≤ d0 ∧ d0 ≤ 122) (h1 : 1 < l → 97 ≤ d1 ∧ d1 ≤ 122) (h2 : 2 < l → 97 ≤ d2 ∧ d2 ≤ 122) (h3 : 3 < l → 97 ≤ d3 ∧ d3 ≤ 122) (h4 : 4 < l → 97 ≤ d4 ∧ d4 ≤ 122) : ((sg l 0 d0 = 116 ∧ sg l 1 d1 = 111 ∧ sg l 2 d2 = 114 ∧ sg l 3 d3 = 110 ∧ sg l 4 d4 = 32) ↔ cd5 l d0 d1 d2 d3 d4 = 405095) := by
  unfold sg cd5
  obtain rfl | rfl | rfl | rfl | rfl | rfl : l = 0 ∨ l = 1 ∨ l = 2 ∨ l = 3 ∨ l = 4 ∨ l = 5 := by omega
  all_goals (first | (simp; done) | (simp; omega))
theorem wm_14 (l d0 d1 d2 d3 d4 : Nat) (hl : l ≤ 5) (h0 : 0 < l → 97 ≤ d0 ∧ d0 ≤ 122) (h1 : 1 < l → 97 ≤ d1 ∧ d1 ≤ 122) (h2 : 2 < l → 97 ≤ d2 ∧ d2 ≤ 122) (h3 : 3 < l → 97 ≤ d3 ∧ d3 ≤ 122) (h4 : 4 < l → 97 ≤ d4 ∧ d4 ≤ 122) : ((sg l 0 d0 = 108 ∧ sg l 1 d1 = 101 ∧ sg l 2 d2 = 97 ∧ sg l 3 d3 = 115 ∧ sg l 4 d4 = 116) ↔ cd5 l d0 d1 d2 d3 d4 = 6476969) := by
  unfold sg cd5
  obtain rfl | rfl | rfl | rfl | rfl | rfl : l = 0 ∨ l = 1 ∨ l = 2 ∨ l = 3 ∨ l = 4 ∨ l = 5 := by omega
  all_goals (first | (simp; done) | (simp; omega))
theorem wm_15 (l d0 d1 d2 d3 d4 : Nat) (hl : l ≤ 5) (h0 : 0 < l → 97 ≤ d0 ∧ d0 ≤ 122) (h1 : 1 < l → 97 ≤ d1 ∧ d1 ≤ 122) (h2 : 2 < l → 97 ≤ d2 ∧ d2 ≤ 122) (h3 : 3 < l → 97 ≤ d3 ∧ d3 ≤ 122) (h4 : 4 < l → 97 ≤ d4 ∧ d4 ≤ 122) : ((sg l 0 d0 = 109 ∧ sg l 1 d1 = 111 ∧ sg l 2 d2 = 115 ∧ sg l 3 d3 = 116 ∧ sg l 4 d4 = 32) ↔ cd5 l d0 d1 d2 d3 d4 = 267347) := by
  unfold sg cd5
  obtain rfl | rfl | rfl | rfl | rfl | rfl : l = 0 ∨ l = 1 ∨ l = 2 ∨ l = 3 ∨ l = 4 ∨ l = 5 := by omega
  all_goals (first | (simp; done) | (simp; omega))
theorem wm (l d0 d1 d2 d3 d4 w : Nat) (hw : w < 16) (hl : l ≤ 5) (h0 : 0 < l → 97 ≤ d0 ∧ d0 ≤ 122) (h1 : 1 < l → 97 ≤ d1 ∧ d1 ≤ 122) (h2 : 2 < l → 97 ≤ d2 ∧ d2 ≤ 122) (h3 : 3 < l → 97 ≤ d3 ∧ d3 ≤ 122) (h4 : 4 < l → 97 ≤ d4 ∧ d4 ≤ 122) : ((sg l 0 d0 = chL.getD (w * 5 + 0) 0 ∧ sg l 1 d1 = chL.getD (w * 5 + 1) 0 ∧ sg l 2 d2 = chL.getD (w * 5 + 2) 0 ∧ sg l 3 d3 = chL.getD (w * 5 + 3) 0 ∧ sg l 4 d4 = chL.getD (w * 5 + 4) 0) ↔ cd5 l d0 d1 d2 d3 d4 = Wt.getD w 0) := by
  obtain rfl | rfl | rfl | rfl | rfl | rfl | rfl | rfl | rfl | rfl | rfl | rfl | rfl | rfl | rfl | rfl : w = 0 ∨ w = 1 ∨ w = 2 ∨ w = 3 ∨ w = 4 ∨ w = 5 ∨ w = 6 ∨ w = 7 ∨ w = 8 ∨ w = 9 ∨ w = 10 ∨ w = 11 ∨ w = 12 ∨ w = 13 ∨ w = 14 ∨ w = 15 := by omega
  · exact wm_0 l d0 d1 d2 d3 d4 hl h0 h1 h2 h3 h4
  · exact wm_1 l d0 d1 d2 d3 d4 hl h0 h1 h2 h3 h4
  · exact wm_2 l d0 d1 d2 d3 d4 hl h0 h1 h2 h3 h4
  · exact wm_3 l d0 d1 d2 d3 d4 hl h0 h1 h2 h3 h4
  · exact wm_4 l d0 d1 d2 d3 d4 hl h0 h1 h2 h3 h4
  · exact wm_5 l d0 d1 d2 d3 d4 hl h0 h1 h2 h3 h4
  · exact wm_6 l d0 d1 d2 d3 d4 hl h0 h1 h2 h3 h4
  · exact wm_7 l d0 d1 d2 d3 d4 hl h0 h1 h2 h3 h4
  · exact wm_8 l d0 d1 d2 d3 d4 hl h0 h1 h2 h3 h4
  · exact wm_9 l d0 d1 d2 d3 d4 hl h0 h1 h2 h3 h4
  · exact wm_10 l d0 d1 d2 d3 d4 hl h0 h1 h2 h3 h4
  · exact wm_11 l d0 d1 d2 d3 d4 hl h0 h1 h2 h3 h4
  · exact wm_12 l d0 d1 d2 d3 d4 hl h0 h1 h2 h3 h4
  · exact wm_13 l d0 d1 d2 d3 d4 hl h0 h1 h2 h3 h4
  · exact wm_14 l d0 d1 d2 d3 d4 hl h0 h1 h2 h3 h4
  · exact wm_15 l d0 d1 d2 d3 d4 hl h0 h1 h2 h3 h4
theorem wcd_5 (tx : Nat → Nat) (p : Nat) {l : Nat} (hl : l ≤ 5) : wcd tx p l = cd5 l (tx (p + 0)) (tx (p + 1)) (tx (p + 2)) (tx (p + 3)) (tx (p + 4)) := by
  obtain rfl | rfl | rfl | rfl | rfl | rfl : l = 0 ∨ l = 1 ∨ l = 2 ∨ l = 3 ∨ l = 4 ∨ l = 5 := by omega
  · rfl
  · show 27 * 0 + (tx (p + 0) - 96) = tx (p + 0) - 96
    omega
  · show 27 * (27 * 0 + (tx (p + 0) - 96)) + (tx (p + 1) - 96) = 27 * (tx (p + 0) - 96) + (tx (p + 1) - 96)
    omega
  · show 27 * (27 * (27 * 0 + (tx (p + 0) - 96)) + (tx (p + 1) - 96)) + (tx (p + 2) - 96) = 27 * (27 * (tx (p + 0) - 96) + (tx (p + 1) - 96)) + (tx (p + 2) - 96)
    omega
  · show 27 * (27 * (27 * (27 * 0 + (tx (p + 0) - 96)) + (tx (p + 1) - 96)) + (tx (p + 2) - 96)) + (tx (p + 3) - 96) = 27 * (27 * (27 * (tx (p + 0) - 96) + (tx (p + 1) - 96)) + (tx (p + 2) - 96)) + (tx (p + 3) - 96)
    omega
  · show 27 * (27 * (27 * (27 * (27 * 0 + (tx (p + 0) - 96)) + (tx (p + 1) - 96)) + (tx (p + 2) - 96)) + (tx (p + 3) - 96)) + (tx (p + 4) - 96) = 27 * (27 * (27 * (27 * (tx (p + 0) - 96) + (tx (p + 1) - 96)) + (tx (p + 2) - 96)) + (tx (p + 3) - 96)) + (tx (p + 4) - 96)
    omega
/-- the reader's cells, and the code that it has written -/
def csM (M0 : px_M) (A b0 : Nat) (C : List Int32) (a x k u o m l : Int32) : px_M := fun c j =>
  if c = 20 then (if j = 3 then a else if j = 4 then x else if j = 5 then k else if j = 6 then u else if j = 7 then o else if j = 8 then m else if j = 9 then l else M0 20 j)
  else if c = b0 then (if j < C.length then C.getD j 0 else M0 b0 j)
  else if c = A then (if j = 4 then nI C.length else M0 A j)
  else M0 c j
section CS
variable {M0 : px_M} {A b0 : Nat} {C : List Int32} {a x k u o m l : Int32}
theorem cs2 : csM M0 A b0 C a x k u o m l 20 2 = M0 20 2 := rfl
theorem cs3 : csM M0 A b0 C a x k u o m l 20 3 = a := rfl
theorem cs4 : csM M0 A b0 C a x k u o m l 20 4 = x := rfl
theorem cs5 : csM M0 A b0 C a x k u o m l 20 5 = k := rfl
theorem cs6 : csM M0 A b0 C a x k u o m l 20 6 = u := rfl
theorem cs7 : csM M0 A b0 C a x k u o m l 20 7 = o := rfl
theorem cs8 : csM M0 A b0 C a x k u o m l 20 8 = m := rfl
theorem cs9 : csM M0 A b0 C a x k u o m l 20 9 = l := rfl
theorem cs_o {c : Nat} (h1 : c ≠ 20) (h2 : c ≠ b0) (h3 : c ≠ A) (j : Nat) : csM M0 A b0 C a x k u o m l c j = M0 c j := by
  unfold csM
  rw [if_neg h1, if_neg h2, if_neg h3]
theorem csu3 (v : Int32) : px_u (csM M0 A b0 C a x k u o m l) 20 3 v = csM M0 A b0 C v x k u o m l := by
  funext c j
  unfold px_u csM
  by_cases h1 : c = 20
  · by_cases h2 : j = 3
    · simp [h1, h2]
    · simp [h1, h2]
  · simp [h1]
theorem csu4 (v : Int32) : px_u (csM M0 A b0 C a x k u o m l) 20 4 v = csM M0 A b0 C a v k u o m l := by
  funext c j
  unfold px_u csM
  by_cases h1 : c = 20
  · by_cases h2 : j = 4
    · simp [h1, h2]
    · simp [h1, h2]
  · simp [h1]
theorem csu5 (v : Int32) : px_u (csM M0 A b0 C a x k u o m l) 20 5 v = csM M0 A b0 C a x v u o m l := by
  funext c j
  unfold px_u csM
  by_cases h1 : c = 20
  · by_cases h2 : j = 5
    · simp [h1, h2]
    · simp [h1, h2]
  · simp [h1]
theorem csu6 (v : Int32) : px_u (csM M0 A b0 C a x k u o m l) 20 6 v = csM M0 A b0 C a x k v o m l := by
  funext c j
  unfold px_u csM
  by_cases h1 : c = 20
  · by_cases h2 : j = 6
    · simp [h1, h2]
    · simp [h1, h2]
  · simp [h1]
theorem csu7 (v : Int32) : px_u (csM M0 A b0 C a x k u o m l) 20 7 v = csM M0 A b0 C a x k u v m l := by
  funext c j
  unfold px_u csM
  by_cases h1 : c = 20
  · by_cases h2 : j = 7
    · simp [h1, h2]
    · simp [h1, h2]
  · simp [h1]
theorem csu8 (v : Int32) : px_u (csM M0 A b0 C a x k u o m l) 20 8 v = csM M0 A b0 C a x k u o v l := by
  funext c j
  unfold px_u csM
  by_cases h1 : c = 20
  · by_cases h2 : j = 8
    · simp [h1, h2]
    · simp [h1, h2]
  · simp [h1]
theorem csu9 (v : Int32) : px_u (csM M0 A b0 C a x k u o m l) 20 9 v = csM M0 A b0 C a x k u o m v := by
  funext c j
  unfold px_u csM
  by_cases h1 : c = 20
  · by_cases h2 : j = 9
    · simp [h1, h2]
    · simp [h1, h2]
  · simp [h1]
def ad (C : List Int32) (t : Int32) : List Int32 := if C.length < 300 then C ++ [t] else C
theorem ad_len (h : C.length ≤ 300) (t : Int32) : (ad C t).length ≤ 300 := by
  unfold ad
  split
  · simp; omega
  · exact h
theorem csuA (hA : A ≠ 20) (hb : b0 ≠ 20) (hAb : A ≠ b0) (t : Int32) : px_u (px_u (csM M0 A b0 C a x k u o m l) b0 C.length t) A 4 (nI (C.length + 1)) = csM M0 A b0 (C ++ [t]) a x k u o m l := by
  funext c j
  unfold px_u csM
  by_cases h1 : c = 20
  · subst h1
    rw [if_neg (fun q => hA q.1.symm), if_neg (fun q => hb q.1.symm), if_pos rfl, if_pos rfl]
  · by_cases h2 : c = b0
    · subst h2
      rw [if_neg (fun q => hAb q.1.symm), if_neg h1, if_pos rfl, if_neg h1, if_pos rfl]
      by_cases h3 : j = C.length
      · subst h3
        rw [if_pos ⟨rfl, rfl⟩, if_pos (by simp)]
        simp
      · rw [if_neg (fun q => h3 q.2)]
        by_cases h4 : j < C.length
        · rw [if_pos h4, if_pos (by simp; omega)]
          simp [List.getElem?_append_left h4]
        · rw [if_neg h4, if_neg (by simp; omega)]
    · by_cases h3 : c = A
      · subst h3
        rw [if_neg h1, if_neg h2, if_pos rfl, if_neg h1, if_neg h2, if_pos rfl]
        by_cases h4 : j = 4
        · subst h4
          rw [if_pos ⟨rfl, rfl⟩, if_pos rfl]
          simp
        · rw [if_neg (fun q => h4 q.2), if_neg (fun q => h2 q.1), if_neg h4, if_neg h4]
      · rw [if_neg (fun q => h3 q.1), if_neg (fun q => h2 q.1), if_neg h1, if_neg h2, if_neg h3, if_neg h1, if_neg h2, if_neg h3]
theorem c_add {sh : px_Sh} {R : px_R} (hA : A ≠ 20) (hb : b0 ≠ 20) (hAb : A ≠ b0) (sA : sh A = some (7, 0)) (r0 : R A 0 = some b0) (s0 : sh b0 = some (13, 300)) (hC : C.length ≤ 300) (t : Int32) : f_X7_add sh (csM M0 A b0 C a x k u o m l) R A t = some (csM M0 A b0 (ad C t) a x k u o m l) := by
  have e4 : csM M0 A b0 C a x k u o m l A 4 = nI C.length := by
    unfold csM
    rw [if_neg hA, if_neg hAb, if_pos rfl, if_pos rfl]
  have e4' : px_u (csM M0 A b0 C a x k u o m l) b0 C.length t A 4 = nI C.length := by
    rw [pu_n (fun q => hAb q.1)]; exact e4
  unfold f_X7_add f_X7_add_32 ad
  simp only [ok_t (hk_t sA), r0, bd1_e, al_t s0, e4]
  by_cases e : C.length < 300
  · rw [if_neg (nI_ge (b := 300) e (by decide)), if_pos e, ok_t (xk_t s0 (ix_k e (by decide))), nI_clamp (show C.length < 2 ^ 31 by omega), nm_u, e4', nI_1, nm_u, nm_u, csuA hA hb hAb]
  · rw [if_pos (nI_le (a := 300) (by omega) (by omega)), if_neg e]
end CS
