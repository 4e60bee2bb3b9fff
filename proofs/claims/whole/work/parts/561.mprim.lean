/-! the reference reads single signs -/
def rsM (M0 : px_M) (a o f g : Int32) : px_M := fun c j => if c = 73 then (if j = 78 then a else if j = 80 then o else if j = 81 then f else if j = 82 then g else M0 73 j) else M0 c j
section RS
variable {M0 : px_M} {a o f g : Int32}
theorem rs77 : rsM M0 a o f g 73 77 = M0 73 77 := rfl
theorem rs78 : rsM M0 a o f g 73 78 = a := rfl
theorem rs79 : rsM M0 a o f g 73 79 = M0 73 79 := rfl
theorem rs80 : rsM M0 a o f g 73 80 = o := rfl
theorem rs81 : rsM M0 a o f g 73 81 = f := rfl
theorem rs82 : rsM M0 a o f g 73 82 = g := rfl
theorem rs_o {c : Nat} (h : c ≠ 73) (j : Nat) : rsM M0 a o f g c j = M0 c j := if_neg h
theorem rsu78 (v : Int32) : px_u (rsM M0 a o f g) 73 78 v = rsM M0 v o f g := by
  funext c j
  unfold px_u rsM
  by_cases h1 : c = 73
  · by_cases h2 : j = 78
    · simp [h1, h2]
    · simp [h1, h2]
  · simp [h1]
theorem rsu80 (v : Int32) : px_u (rsM M0 a o f g) 73 80 v = rsM M0 a v f g := by
  funext c j
  unfold px_u rsM
  by_cases h1 : c = 73
  · by_cases h2 : j = 80
    · simp [h1, h2]
    · simp [h1, h2]
  · simp [h1]
theorem rsu81 (v : Int32) : px_u (rsM M0 a o f g) 73 81 v = rsM M0 a o v g := by
  funext c j
  unfold px_u rsM
  by_cases h1 : c = 73
  · by_cases h2 : j = 81
    · simp [h1, h2]
    · simp [h1, h2]
  · simp [h1]
theorem rsu82 (v : Int32) : px_u (rsM M0 a o f g) 73 82 v = rsM M0 a o f v := by
  funext c j
  unfold px_u rsM
  by_cases h1 : c = 73
  · by_cases h2 : j = 82
    · simp [h1, h2]
    · simp [h1, h2]
  · simp [h1]
end RS
def RrI (tx : Nat → Nat) (n : Nat) (M0 : px_M) (vals : Nat → Int32) : Prop := n ≤ 300 ∧ M0 73 79 = nI n ∧ (∀ i, i < n → (if M0 73 77 = 0 then M0 177 i else M0 178 i) = nI (tx i) ∧ tx i < 256) ∧ ∀ (a o f g : Int32) (k : Nat), k < 7 → f_X12_named (rsM M0 a o f g) (nI k) = some (vals k)
def byI (tx : Nat → Nat) (n q : Nat) : Int32 := if q < n then nI (tx q) else -1
section MPRIM
variable {tx : Nat → Nat} {n : Nat} {M0 : px_M} {vals : Nat → Int32} {o f g : Int32}
theorem RrI.bx (hI : RrI tx n M0 vals) : ∀ i, i < n → tx i < 256 := fun i hi => (hI.2.2.1 i hi).2
theorem m_byte (hI : RrI tx n M0 vals) {q : Nat} (hq : q < 2 ^ 31) (a : Int32) : f_X12_byteAt (rsM M0 a o f g) (nI q) = some (byI tx n q) := by
  obtain ⟨h1, h2, h3, -⟩ := hI
  unfold f_X12_byteAt f_X12_byteAt_34 byI
  rw [rs79, h2, ifi (nI_ltI hq (show n < 2 ^ 31 by omega)), rs77, rs_o (by decide), rs_o (by decide)]
  by_cases e : q < n
  · have := (h3 q e).1
    rw [if_pos e, if_pos e, ok_t (ix_k (show q < 300 by omega) (by decide)), ok_t (ix_k (show q < 300 by omega) (by decide)), nI_clamp hq, ← this]
    split <;> rfl
  · rw [if_neg e, if_neg e]
theorem by_eq (hI : RrI tx n M0 vals) {q c : Nat} (w : Int32) (hw : w = nI c) (hc : c < 256) : byI tx n q = w ↔ byt tx n q = c := by
  rw [hw]
  unfold byI byt
  by_cases e : q < n
  · rw [if_pos e, if_pos e]
    exact nI_eq (by have := hI.bx q e; omega) (by omega)
  · rw [if_neg e, if_neg e]
    exact ⟨fun z => absurd z.symm (nI_ne1 (by omega)), fun z => absurd z (by omega)⟩
theorem m_small (hI : RrI tx n M0 vals) (q : Nat) : f_X12_isSmall (byI tx n q) = some (if isSm tx n q = true then 1 else 0) := by
  unfold f_X12_isSmall f_X12_isSmall_16 f_X12_isSmall_17 byI
  rw [ok_t zb0, ok_t zb1, ifi isSm_iff]
  by_cases e : q < n
  · have hl := hI.bx q e
    rw [if_pos e, ifi (ltL (a := tx q) (b := 97) 97 rfl (by omega) (by decide)), ifi (ltL' (a := 122) (b := tx q) 122 rfl (by decide) (by omega))]
    by_cases c1 : tx q < 97
    · rw [if_pos c1, if_neg (by omega)]
    · rw [if_neg c1]
      by_cases c2 : 122 < tx q
      · rw [if_pos c2, if_neg (by omega)]
      · rw [if_neg c2, if_pos ⟨e, by omega, by omega⟩]
  · rw [if_neg e, if_pos (by decide), if_neg (fun z => e z.1)]
theorem m_digit (hI : RrI tx n M0 vals) (q : Nat) : f_X12_isDigit (byI tx n q) = some (if isDg tx n q = true then 1 else 0) := by
  unfold f_X12_isDigit f_X12_isDigit_16 f_X12_isDigit_17 byI
  rw [ok_t zb0, ok_t zb1, ifi isDg_iff]
  by_cases e : q < n
  · have hl := hI.bx q e
    rw [if_pos e, ifi (ltL (a := tx q) (b := 48) 48 rfl (by omega) (by decide)), ifi (ltL' (a := 57) (b := tx q) 57 rfl (by decide) (by omega))]
    by_cases c1 : tx q < 48
    · rw [if_pos c1, if_neg (by omega)]
    · rw [if_neg c1]
      by_cases c2 : 57 < tx q
      · rw [if_pos c2, if_neg (by omega)]
      · rw [if_neg c2, if_pos ⟨e, by omega, by omega⟩]
  · rw [if_neg e, if_pos (by decide), if_neg (fun z => e z.1)]
theorem isBl_byt {q : Nat} : isBl tx n q = true ↔ byt tx n q = 32 := by unfold isBl; simp
theorem m_blanks (hI : RrI tx n M0 vals) {a : Nat} (ha : a ≤ 2 ^ 30) : f_X12_blanks (rsM M0 (nI a) o f g) = some (rsM M0 (nI (bl tx n a)) o f g) := by
  have s1 : lpf (fun z : px_M => f_X12_blanks_0 z) (rsM M0 (nI a) o f g) = some (rsM M0 (nI (bl tx n a)) o f g) := by
    refine lpf_skp (body := fun z : px_M => f_X12_blanks_0 z) (isBl tx n) (2 ^ 30) (fun j => rsM M0 (nI j) o f g) (fun j => rsM M0 (nI j) o f g) (fun j h => by have := (isBl_iff.mp h).1; have := hI.1; omega) (fun j h => ?_) (fun j hj h => ?_) 300 a ha (bl_e hI.1 a)
    · have j1 := (isBl_iff.mp h).1
      have := hI.1
      show f_X12_blanks_0 _ = _
      unfold f_X12_blanks_0
      rw [rs78, m_byte hI (by omega), bd1_e, if_pos ((by_eq hI (c := 32) 32 rfl (by decide)).mpr (isBl_byt.mp h)), nm_u, nm_u, rsu78, nI_1]
    · show f_X12_blanks_0 _ = _
      unfold f_X12_blanks_0
      rw [rs78, m_byte hI (by omega), bd1_e, if_neg (fun z => by rw [isBl_byt.mpr ((by_eq hI (c := 32) 32 rfl (by decide)).mp z)] at h; exact absurd h (by decide))]
  unfold f_X12_blanks
  rw [s1, bd1_e]
theorem m_skip (hI : RrI tx n M0 vals) {a : Nat} (ha : a ≤ 2 ^ 30) : f_X12_skipWord (rsM M0 (nI a) o f g) = some (rsM M0 (nI (we tx n a)) o f g) := by
  have s1 : lpf (fun z : px_M => f_X12_skipWord_0 z) (rsM M0 (nI a) o f g) = some (rsM M0 (nI (we tx n a)) o f g) := by
    refine lpf_skp (body := fun z : px_M => f_X12_skipWord_0 z) (isSm tx n) (2 ^ 30) (fun j => rsM M0 (nI j) o f g) (fun j => rsM M0 (nI j) o f g) (fun j h => by have := (isSm_iff.mp h).1; have := hI.1; omega) (fun j h => ?_) (fun j hj h => ?_) 300 a ha (we_e hI.1 a)
    · have j1 := (isSm_iff.mp h).1
      have := hI.1
      show f_X12_skipWord_0 _ = _
      unfold f_X12_skipWord_0
      rw [rs78, m_byte hI (by omega), bd1_e, m_small hI, bd1_e, if_pos h, if_neg (by decide), nm_u, nm_u, rsu78, nI_1]
    · show f_X12_skipWord_0 _ = _
      unfold f_X12_skipWord_0
      rw [rs78, m_byte hI (by omega), bd1_e, m_small hI, bd1_e, h, if_neg (show ¬ false = true by decide), if_pos rfl]
  unfold f_X12_skipWord
  rw [s1, bd1_e]
theorem wcd_lt {p : Nat} : ∀ k, k ≤ we tx n p - p → wcd tx p k < 27 ^ k
  | 0, _ => show 0 < 1 by decide
  | k + 1, hk => by
    have h1 := wcd_lt (p := p) k (by omega)
    have hd := isSm_iff.mp (skp_mid (isSm tx n) 300 p (p + k) (by omega) (by unfold we at hk; omega))
    rw [show wcd tx p (k + 1) = 27 * wcd tx p k + (tx (p + k) - 96) from rfl, Nat.pow_succ]
    omega
def wI (tx : Nat → Nat) (n p : Nat) : Int32 := if we tx n p - p ≤ 5 then nI (wcd tx p (we tx n p - p)) else -1
theorem wI_eq {p W : Nat} (w : Int32) (hw : w = nI W) (hW : W < 27 ^ 5) : wI tx n p = w ↔ wd tx n p = W := by
  rw [hw]
  unfold wI wd
  by_cases e : we tx n p - p ≤ 5
  · rw [if_pos e, if_pos e]
    have h1 := wcd_lt (tx := tx) (n := n) (p := p) _ (Nat.le_refl _)
    have h2 : 27 ^ (we tx n p - p) ≤ 27 ^ 5 := Nat.pow_le_pow_right (by decide) e
    exact nI_eq (by omega) (by omega)
  · rw [if_neg e, if_neg e]
    exact ⟨fun z => absurd z.symm (nI_ne1 (by omega)), fun z => absurd z (by omega)⟩
theorem m_word (hI : RrI tx n M0 vals) {a : Nat} (ha : a ≤ 2 ^ 30) (hb : bl tx n a ≤ 2 ^ 30) : f_X12_wordHere (rsM M0 (nI a) o f g) = some (wI tx n (bl tx n a), rsM M0 (nI (bl tx n a)) o f g) := by
  unfold f_X12_wordHere f_X12_wordHere_70
  rw [m_blanks hI ha, bd1_e]
  obtain ⟨p, ep⟩ : ∃ p, p = bl tx n a := ⟨_, rfl⟩
  rw [← ep] at hb ⊢
  have hN : we tx n p - p ≤ 300 := by
    by_cases q : p ≤ n
    · have := we_le (tx := tx) q
      have := hI.1
      omega
    · have : we tx n p = p := skp_no (isSm_o (by omega)) 300
      omega
  have K := lpf_for (σ := Unit) (body := fun z : Int32 × Int32 => f_X12_wordHere_8 (rsM M0 (nI p) o f g) z.1 z.2) (fun i _ => (nI (wcd tx p (if i ≤ 5 then i else 5)), nI i)) (fun _ s => s) (fun _ _ => True) (fun _ => (nI (wcd tx p (if we tx n p - p ≤ 5 then we tx n p - p else 5)), nI (we tx n p - p))) (we tx n p - p)
    (fun i _ hi _ => by
      refine ⟨?_, trivial⟩
      have hd := skp_mid (isSm tx n) 300 p (p + i) (by omega) (by unfold we at hi; omega)
      obtain ⟨d1, d2, d3⟩ := isSm_iff.mp hd
      show f_X12_wordHere_8 _ _ (nI i) = _
      unfold f_X12_wordHere_8 f_X12_wordHere_53
      rw [rs78, nI_add, m_byte hI (by omega), bd1_e, m_small hI, bd1_e, if_pos hd, if_neg (by decide), ifi (leL' (a := 5) (b := i) 5 rfl (by decide) (by omega)), nI_1]
      by_cases c : 5 ≤ i
      · rw [if_pos c, if_neg (show ¬ i + 1 ≤ 5 by omega)]
        by_cases c2 : i ≤ 5
        · obtain rfl : i = 5 := by omega
          rfl
        · rw [if_neg c2]
      · have e1 : byI tx n (p + i) = nI (tx (p + i)) := if_pos d1
        rw [if_neg c, bd1_e, e1, if_pos (show i ≤ 5 by omega), if_pos (show i + 1 ≤ 5 by omega), show wcd tx p (i + 1) = 27 * wcd tx p i + (tx (p + i) - 96) from rfl, show (27 : Int32) = nI 27 from rfl, pk_mul, nI_add, show (97 : Int32) = nI 97 from rfl, pk_sub (by omega), nI_1, show 27 * wcd tx p i + tx (p + i) - 97 + 1 = 27 * wcd tx p i + (tx (p + i) - 96) by omega])
    (fun _ _ => by
      show f_X12_wordHere_8 _ _ (nI (we tx n p - p)) = _
      unfold f_X12_wordHere_8
      have := we_ge (tx := tx) (n := n) p
      rw [rs78, nI_add, show p + (we tx n p - p) = we tx n p by omega, m_byte hI (by omega), bd1_e, m_small hI, bd1_e, we_e hI.1 p, if_neg (show ¬ false = true by decide), if_pos rfl]) (we tx n p - p) 0 () (by omega) trivial
  have K1 := K.1
  rw [show ((0, 0) : Int32 × Int32) = (nI (wcd tx p (if 0 ≤ 5 then 0 else 5)), nI 0) from rfl, K1, bd1_e]
  show (if nI (we tx n p - p) ≤ 5 then _ else _) = _
  unfold wI
  rw [ifi (leL (a := we tx n p - p) (b := 5) 5 rfl (by omega) (by decide))]
  by_cases e : we tx n p - p ≤ 5
  · rw [if_pos e, if_pos e]
    rw [if_pos e]
  · rw [if_neg e, if_neg e]
theorem m_wrong0 (a o' g' e w : Int32) : f_X12_wrong (rsM M0 a o' 0 g') e w = some (rsM M0 a o' e w) := by
  unfold f_X12_wrong f_X12_wrong_17
  rw [rs81, if_pos rfl, nm_u, rsu81, nm_u, rsu82]
theorem m_wrong1 (hf : f ≠ 0) (a e w : Int32) : f_X12_wrong (rsM M0 a o f g) e w = some (rsM M0 a o f g) := by
  unfold f_X12_wrong f_X12_wrong_17
  rw [rs81, if_neg hf]
theorem m_sign_y (hI : RrI tx n M0 vals) {a c : Nat} (ha : a ≤ 2 ^ 30) (hb : bl tx n a ≤ 2 ^ 30) (w : Int32) (hw : w = nI c) (hc : c < 256) (h : byt tx n (bl tx n a) = c) : f_X12_sign (rsM M0 (nI a) o f g) w = some (rsM M0 (nI (bl tx n a + 1)) o f g) := by
  unfold f_X12_sign f_X12_sign_38
  rw [m_blanks hI ha, bd1_e, rs78, m_byte hI (by omega), bd1_e, if_pos ((by_eq hI w hw hc).mpr h), nm_u, nm_u, rsu78, nI_1]
theorem m_sign_x (hI : RrI tx n M0 vals) {a c : Nat} (ha : a ≤ 2 ^ 30) (hb : bl tx n a ≤ 2 ^ 30) (w : Int32) (hw : w = nI c) (hc : c < 256) (h : ¬ byt tx n (bl tx n a) = c) : f_X12_sign (rsM M0 (nI a) o 0 g) w = some (rsM M0 (nI (bl tx n a)) o 1 (nI (bl tx n a))) := by
  unfold f_X12_sign f_X12_sign_38
  rw [m_blanks hI ha, bd1_e, rs78, m_byte hI (by omega), bd1_e, if_neg (fun z => h ((by_eq hI w hw hc).mp z)), m_wrong0, bd1_e]
theorem bl_2 {a : Nat} (h : a ≤ n + 2) : bl tx n a ≤ n + 2 := by
  by_cases e : a ≤ n
  · have := bl_le (tx := tx) e
    omega
  · rw [bl_hi (by omega)]; exact h
theorem m_sign_n (hI : RrI tx n M0 vals) {a c : Nat} (ha : a ≤ n + 2) (w : Int32) (hw : w = nI c) (hc : c < 256) (hf : f ≠ 0) : ∃ a', a' ≤ n + 2 ∧ f_X12_sign (rsM M0 (nI a) o f g) w = some (rsM M0 (nI a') o f g) := by
  have h300 := hI.1
  have hb := bl_2 (tx := tx) ha
  by_cases h : byt tx n (bl tx n a) = c
  · refine ⟨_, ?_, m_sign_y hI (by omega) (by omega) w hw hc h⟩
    by_cases e : bl tx n a < n
    · omega
    · rw [byt_o (by omega)] at h; omega
  · refine ⟨bl tx n a, hb, ?_⟩
    unfold f_X12_sign f_X12_sign_38
    rw [m_blanks hI (by omega), bd1_e, rs78, m_byte hI (by omega), bd1_e, if_neg (fun z => h ((by_eq hI w hw hc).mp z)), m_wrong1 hf, bd1_e]
/-- what lies behind a sign that is neither word nor number -/
theorem nx_sgn {p c : Nat} (hc : c < 256) (h1 : ¬ (97 ≤ c ∧ c ≤ 122)) (h2 : ¬ (48 ≤ c ∧ c ≤ 57)) (h : byt tx n p = c) : p < n ∧ nx tx n p = p + 1 := by
  have hp : p < n := by
    by_cases e : p < n
    · exact e
    · rw [byt_o (by omega)] at h; omega
  rw [byt_i hp] at h
  refine ⟨hp, ?_⟩
  unfold nx
  rw [if_neg (by omega), h, if_neg h1, if_neg h2]
theorem nx_wrd {p : Nat} (h : isSm tx n p = true) : nx tx n p = we tx n p := by
  obtain ⟨h1, h2⟩ := isSm_iff.mp h
  unfold nx
  rw [if_neg (by omega), if_pos h2]
theorem nx_dig {p : Nat} (h : isDg tx n p = true) : nx tx n p = de tx n p := by
  obtain ⟨h1, h2⟩ := isDg_iff.mp h
  unfold nx
  rw [if_neg (by omega), if_neg (by omega), if_pos h2]
theorem m_number (hI : RrI tx n M0 vals) {p : Nat} (hp : p < n) (hd : isDg tx n p = true) (hb : bl tx n p = p) (o' g' : Int32) : ∃ z, f_X12_number (rsM M0 (nI p) o' 0 g') = some (z, if nv tx n p ≤ 9999 then rsM M0 (nI (de tx n p)) o' 0 g' else rsM M0 (nI (de tx n p)) o' 2 (nI p)) ∧ (nv tx n p ≤ 9999 → z = nI (nv tx n p)) := by
  have h300 := hI.1
  have hW := de_ge (tx := tx) (n := n) p
  have hW2 := de_le (tx := tx) (n := n) (p := p) (by omega)
  have K := lpf_for (σ := Unit) (body := fun z : Int32 × px_M => f_X12_number_34 z.2 (nI p) z.1) (fun i _ => (nI (if nvl tx p i ≤ 100000 then nvl tx p i else 100000), rsM M0 (nI (p + i)) o' 0 g')) (fun _ s => s) (fun _ _ => True) (fun _ => (nI (if nv tx n p ≤ 100000 then nv tx n p else 100000), rsM M0 (nI (de tx n p)) o' 0 g')) (de tx n p - p)
    (fun i _ hi _ => by
      refine ⟨?_, trivial⟩
      have hd := skp_mid (isDg tx n) 300 p (p + i) (by omega) (by unfold de at hi; omega)
      obtain ⟨d1, d2, d3⟩ := isDg_iff.mp hd
      have e1 : byI tx n (p + i) = nI (tx (p + i)) := if_pos d1
      obtain ⟨v, ev⟩ : ∃ v, v = if nvl tx p i ≤ 100000 then nvl tx p i else 100000 := ⟨_, rfl⟩
      show f_X12_number_34 (rsM M0 (nI (p + i)) o' 0 g') (nI p) (nI (if nvl tx p i ≤ 100000 then nvl tx p i else 100000)) = _
      have hv : v ≤ 100000 := by rw [ev]; split <;> omega
      unfold f_X12_number_34 f_X12_number_79
      rw [← ev, rs78, m_byte hI (by omega), bd1_e, m_digit hI, bd1_e, if_pos hd, if_neg (by decide), bd1_e, nm_u, e1, show (10 : Int32) = nI 10 from rfl, pk_mul, nI_add, show (48 : Int32) = nI 48 from rfl, pk_sub (by omega), ifi (leL (a := 10 * v + tx (p + i) - 48) (b := 100000) 100000 rfl (by omega) (by decide)), nm_u, nm_u, rsu78, nI_1]
      show _ = some (Sum.inl (nI (if nvl tx p (i + 1) ≤ 100000 then nvl tx p (i + 1) else 100000), rsM M0 (nI (p + (i + 1))) o' 0 g'))
      rw [show p + (i + 1) = p + i + 1 by omega, show nvl tx p (i + 1) = 10 * nvl tx p i + (tx (p + i) - 48) from rfl]
      by_cases c : nvl tx p i ≤ 100000
      · rw [if_pos c] at ev
        rw [ev, show 10 * nvl tx p i + tx (p + i) - 48 = 10 * nvl tx p i + (tx (p + i) - 48) by omega]
        by_cases c2 : 10 * nvl tx p i + (tx (p + i) - 48) ≤ 100000
        · rw [if_pos c2, if_pos c2]
        · rw [if_neg c2, if_neg c2, nm_u, nm_u, rsu78]
          rfl
      · rw [if_neg c] at ev
        rw [if_neg (show ¬ 10 * nvl tx p i + (tx (p + i) - 48) ≤ 100000 by omega), if_neg (show ¬ 10 * v + tx (p + i) - 48 ≤ 100000 by omega), nm_u, nm_u, rsu78]
        rfl)
    (fun _ _ => by
      show f_X12_number_34 (rsM M0 (nI (p + (de tx n p - p))) o' 0 g') (nI p) _ = _
      unfold f_X12_number_34
      rw [rs78, show p + (de tx n p - p) = de tx n p by omega, m_byte hI (by omega), bd1_e, m_digit hI, bd1_e, de_e hI.1 p, if_neg (show ¬ false = true by decide), if_pos rfl]
      rfl) (de tx n p - p) 0 () (by omega) trivial
  have K1 := K.1
  refine ⟨nI (if nv tx n p ≤ 100000 then nv tx n p else 100000), ?_, fun h => by rw [if_pos (by omega)]⟩
  unfold f_X12_number f_X12_number_34w f_X12_number_106
  rw [m_blanks hI (by omega), bd1_e, hb, nm_u, rs78, m_byte hI (by omega), bd1_e, m_digit hI, bd1_e, if_pos hd, if_neg (by decide)]
  rw [show ((0, rsM M0 (nI p) o' 0 g') : Int32 × px_M) = (nI (if nvl tx p 0 ≤ 100000 then nvl tx p 0 else 100000), rsM M0 (nI (p + 0)) o' 0 g') from rfl, K1, bd1_e]
  show (if nI (if nv tx n p ≤ 100000 then nv tx n p else 100000) ≤ 9999 then _ else _) = _
  have hi : (nI (if nv tx n p ≤ 100000 then nv tx n p else 100000) ≤ 9999) ↔ nv tx n p ≤ 9999 := by
    by_cases c : nv tx n p ≤ 100000
    · rw [if_pos c]; exact leL (b := 9999) 9999 rfl (by omega) (by decide)
    · rw [if_neg c]; exact ⟨fun z => absurd z (by decide), fun z => absurd z (by omega)⟩
  rw [ifi hi]
  by_cases c : nv tx n p ≤ 9999
  · rw [if_pos c, if_pos c]
  · rw [if_neg c, if_neg c, m_wrong0, bd1_e]
theorem m_opens_y {a o' k : Nat} (ho : o' < 6) (w : Int32) (hw : w = nI k) (g' : Int32) : f_X12_opens (rsM M0 (nI a) (nI o') 0 g') w = some (rsM M0 (nI (a + k)) (nI (o' + 1)) 0 g') := by
  unfold f_X12_opens f_X12_opens_18
  rw [rs80, if_neg (show ¬ nI o' = 6 from nI_eq' (b := 6) (by omega) (by decide) (by omega)), nm_u, nm_u, rsu80, nI_1, nm_u, rs78, nm_u, rsu78, hw, nI_add]
theorem m_opens_x {a k : Nat} (w : Int32) (hw : w = nI k) (g' : Int32) : f_X12_opens (rsM M0 (nI a) (nI 6) 0 g') w = some (rsM M0 (nI (a + k)) (nI 7) 3 (nI a)) := by
  unfold f_X12_opens f_X12_opens_18
  rw [rs80, if_pos (show nI 6 = 6 from rfl), rs78, m_wrong0, bd1_e, nm_u, rs80, nm_u, rsu80, nI_1, nm_u, rs78, nm_u, rsu78, hw, nI_add]
theorem wdc : (f_X12_word 18 8 15 0 0 = some (nI 13353) ∧ f_X12_word 1 14 7 12 5 = some (nI 812435) ∧ f_X12_word 4 1 25 0 0 = some (nI 2968) ∧ f_X12_word 6 1 18 0 0 = some (nI 4419) ∧ f_X12_word 12 5 1 4 0 = some (nI 239872) ∧ f_X12_word 19 20 5 16 19 = some (nI 10495135) ∧ f_X12_word 20 15 18 14 0 = some (nI 405095) ∧ f_X12_word 12 5 1 19 20 = some (nI 6476969)) ∧ f_X12_word 13 15 19 20 0 = some (nI 267347) ∧ f_X12_word 14 15 20 0 0 = some (nI 10631) ∧ f_X12_word 1 14 4 0 0 = some (nI 1111) ∧ f_X12_word 15 18 0 0 0 = some (nI 423) ∧ f_X12_word 9 14 0 0 0 = some (nI 257) ∧ f_X12_word 11 5 5 16 0 = some (nI 220309) ∧ f_X12_word 15 21 20 0 0 = some (nI 11522) ∧ f_X12_word 9 6 0 0 0 = some (nI 249) := by decide +kernel
theorem m_name (hI : RrI tx n M0 vals) {a : Nat} (ha : a ≤ 2 ^ 30) (hb : bl tx n a ≤ 2 ^ 30) : f_X12_nameHere (rsM M0 (nI a) o f g) = some (if 307 ≤ kd tx n (bl tx n a) ∧ kd tx n (bl tx n a) ≤ 313 then nI (kd tx n (bl tx n a) - 307) else -1, rsM M0 (nI (bl tx n a)) o f g) := by
  obtain ⟨⟨w1, w2, w3, w4, w5, w6, w7, -⟩, -⟩ := wdc
  have ht := hI.bx
  have h300 := hI.1
  obtain ⟨p, ep⟩ : ∃ p, p = bl tx n a := ⟨_, rfl⟩
  have k : ∀ i, i < 16 → (kd tx n p = 300 + i ↔ wd tx n p = Wt.getD i 0) := fun i hi => kd_wd h300 ht hi
  unfold f_X12_nameHere f_X12_nameHere_125
  rw [m_word hI ha hb, ← ep, w1, w2, w3, w4, w5, w6, w7]
  simp only [bd1_e]
  rw [ifi ((wI_eq (tx := tx) (n := n) (p := p) (nI 13353) rfl (by decide)).trans (k 7 (by decide)).symm), ifi ((wI_eq (tx := tx) (n := n) (p := p) (nI 812435) rfl (by decide)).trans (k 8 (by decide)).symm), ifi ((wI_eq (tx := tx) (n := n) (p := p) (nI 2968) rfl (by decide)).trans (k 9 (by decide)).symm), ifi ((wI_eq (tx := tx) (n := n) (p := p) (nI 4419) rfl (by decide)).trans (k 10 (by decide)).symm), ifi ((wI_eq (tx := tx) (n := n) (p := p) (nI 239872) rfl (by decide)).trans (k 11 (by decide)).symm), ifi ((wI_eq (tx := tx) (n := n) (p := p) (nI 10495135) rfl (by decide)).trans (k 12 (by decide)).symm), ifi ((wI_eq (tx := tx) (n := n) (p := p) (nI 405095) rfl (by decide)).trans (k 13 (by decide)).symm)]
  by_cases c7 : kd tx n p = 300 + 7
  · rw [if_pos c7, if_pos (by omega), c7]; rfl
  · rw [if_neg c7]
    by_cases c8 : kd tx n p = 300 + 8
    · rw [if_pos c8, if_pos (by omega), c8]; rfl
    · rw [if_neg c8]
      by_cases c9 : kd tx n p = 300 + 9
      · rw [if_pos c9, if_pos (by omega), c9]; rfl
      · rw [if_neg c9]
        by_cases c10 : kd tx n p = 300 + 10
        · rw [if_pos c10, if_pos (by omega), c10]; rfl
        · rw [if_neg c10]
          by_cases c11 : kd tx n p = 300 + 11
          · rw [if_pos c11, if_pos (by omega), c11]; rfl
          · rw [if_neg c11]
            by_cases c12 : kd tx n p = 300 + 12
            · rw [if_pos c12, if_pos (by omega), c12]; rfl
            · rw [if_neg c12]
              by_cases c13 : kd tx n p = 300 + 13
              · rw [if_pos c13, if_pos (by omega), c13]; rfl
              · rw [if_neg c13, if_neg (by omega)]
end MPRIM
