/-! a text of signs: its blanks, words and numbers -/
def byt (tx : Nat → Nat) (n k : Nat) : Nat := if k < n then tx k else 1000
def skp (P : Nat → Bool) : Nat → Nat → Nat
  | 0, p => p
  | f + 1, p => if P p = true then skp P f (p + 1) else p
theorem skp_ge (P : Nat → Bool) : ∀ f p, p ≤ skp P f p
  | 0, p => Nat.le_refl _
  | f + 1, p => by
    unfold skp
    split
    · exact Nat.le_trans (Nat.le_succ p) (skp_ge P f (p + 1))
    · exact Nat.le_refl _
theorem skp_mid (P : Nat → Bool) : ∀ f p j, p ≤ j → j < skp P f p → P j = true
  | 0, p, j, h1, h2 => absurd (show j < p from h2) (by omega)
  | f + 1, p, j, h1, h2 => by
    unfold skp at h2
    by_cases h : P p = true
    · rw [if_pos h] at h2
      by_cases e : j = p
      · rw [e]; exact h
      · exact skp_mid P f (p + 1) j (by omega) h2
    · rw [if_neg h] at h2
      omega
theorem skp_end (P : Nat → Bool) {N : Nat} (hN : ∀ q, N ≤ q → P q = false) : ∀ f p, N ≤ p + f → P (skp P f p) = false
  | 0, p, h => hN p h
  | f + 1, p, h => by
    unfold skp
    by_cases e : P p = true
    · rw [if_pos e]; exact skp_end P hN f (p + 1) (by omega)
    · rw [if_neg e]; exact Bool.eq_false_iff.mpr e
theorem skp_le (P : Nat → Bool) {N : Nat} (hN : ∀ q, N ≤ q → P q = false) : ∀ f p, p ≤ N → skp P f p ≤ N
  | 0, p, h => h
  | f + 1, p, h => by
    unfold skp
    by_cases e : P p = true
    · rw [if_pos e]
      refine skp_le P hN f (p + 1) ?_
      by_cases q : N ≤ p
      · rw [hN p q] at e; exact absurd e (by decide)
      · omega
    · rw [if_neg e]; exact h
theorem skp_no {P : Nat → Bool} {p : Nat} (h : P p = false) : ∀ f, skp P f p = p
  | 0 => rfl
  | f + 1 => by unfold skp; rw [h]; rfl
theorem skp_uniq {P : Nat → Bool} {p q : Nat} (h1 : p ≤ q) (h2 : ∀ j, p ≤ j → j < q → P j = true) (h3 : P q = false) {f : Nat} (hf : P (skp P f p) = false) : skp P f p = q := by
  by_cases a : skp P f p < q
  · have := h2 _ (skp_ge P f p) a
    rw [hf] at this; exact absurd this (by decide)
  · by_cases b : q < skp P f p
    · have := skp_mid P f p q h1 b
      rw [h3] at this; exact absurd this (by decide)
    · omega
theorem lpf_skp {α β : Type} {body : α → Option (α ⊕ β)} (P : Nat → Bool) (B : Nat) (st : Nat → α) (r : Nat → β) (hB : ∀ j, P j = true → j + 1 ≤ B) (hs : ∀ j, P j = true → body (st j) = some (.inl (st (j + 1)))) (he : ∀ j, j ≤ B → P j = false → body (st j) = some (.inr (r j))) : ∀ f p, p ≤ B → P (skp P f p) = false → lpf body (st p) = some (r (skp P f p))
  | 0, p, hp, h => lpf_end (he p hp h)
  | f + 1, p, hp, h => by
    unfold skp at h ⊢
    by_cases e : P p = true
    · rw [if_pos e] at h ⊢
      rw [lpf_go (hs p e)]
      exact lpf_skp P B st r hB hs he f (p + 1) (hB p e) h
    · rw [if_neg e] at h ⊢
      exact lpf_end (he p hp h)
section TEXT
variable (tx : Nat → Nat) (n : Nat)
def isBl (q : Nat) : Bool := byt tx n q == 32
def isSm (q : Nat) : Bool := decide (97 ≤ byt tx n q ∧ byt tx n q ≤ 122)
def isDg (q : Nat) : Bool := decide (48 ≤ byt tx n q ∧ byt tx n q ≤ 57)
def bl (p : Nat) : Nat := skp (isBl tx n) 300 p
def we (p : Nat) : Nat := skp (isSm tx n) 300 p
def de (p : Nat) : Nat := skp (isDg tx n) 300 p
def nvl (p : Nat) : Nat → Nat
  | 0 => 0
  | k + 1 => 10 * nvl p k + (tx (p + k) - 48)
def cnl (p : Nat) : Nat → Nat
  | 0 => 0
  | k + 1 => if cnl p k ≤ 9999 then 10 * cnl p k + (tx (p + k) - 48) else cnl p k
def nv (p : Nat) : Nat := nvl tx p (de tx n p - p)
def cnv (p : Nat) : Nat := cnl tx p (de tx n p - p)
def wcd (p : Nat) : Nat → Nat
  | 0 => 0
  | k + 1 => 27 * wcd p k + (tx (p + k) - 96)
def wd (p : Nat) : Nat := if we tx n p - p ≤ 5 then wcd tx p (we tx n p - p) else 99999999
end TEXT
def Wt : List Nat := [257, 220309, 11522, 249, 423, 1111, 10631, 13353, 812435, 2968, 4419, 239872, 10495135, 405095, 6476969, 267347]
def wkd (w : Nat) : Nat := fld (fun i k => if w = Wt.getD i 0 then 300 + i else k) 0 16 316
section TEXT2
variable (tx : Nat → Nat) (n : Nat)
def kd (p : Nat) : Nat := if n ≤ p then 318 else if 97 ≤ tx p ∧ tx p ≤ 122 then wkd (wd tx n p) else if 48 ≤ tx p ∧ tx p ≤ 57 then 317 else tx p
def nx (p : Nat) : Nat := if n ≤ p then p else if 97 ≤ tx p ∧ tx p ≤ 122 then we tx n p else if 48 ≤ tx p ∧ tx p ≤ 57 then de tx n p else p + 1
def tk (p : Nat) : Nat := bl tx n (nx tx n p)
end TEXT2
section TEXTL
variable {tx : Nat → Nat} {n : Nat}
theorem byt_o {q : Nat} (h : n ≤ q) : byt tx n q = 1000 := if_neg (by omega)
theorem byt_i {q : Nat} (h : q < n) : byt tx n q = tx q := if_pos h
theorem isBl_o {q : Nat} (h : n ≤ q) : isBl tx n q = false := by unfold isBl; rw [byt_o h]; rfl
theorem isSm_o {q : Nat} (h : n ≤ q) : isSm tx n q = false := by unfold isSm; rw [byt_o h]; rfl
theorem isDg_o {q : Nat} (h : n ≤ q) : isDg tx n q = false := by unfold isDg; rw [byt_o h]; rfl
theorem isBl_iff {q : Nat} : isBl tx n q = true ↔ q < n ∧ tx q = 32 := by
  unfold isBl byt
  by_cases h : q < n
  · rw [if_pos h]; simp [h]
  · rw [if_neg h]; simp [h]
theorem isSm_iff {q : Nat} : isSm tx n q = true ↔ q < n ∧ 97 ≤ tx q ∧ tx q ≤ 122 := by
  unfold isSm byt
  by_cases h : q < n
  · rw [if_pos h]; simp [h]
  · rw [if_neg h]; simp [h]
theorem isDg_iff {q : Nat} : isDg tx n q = true ↔ q < n ∧ 48 ≤ tx q ∧ tx q ≤ 57 := by
  unfold isDg byt
  by_cases h : q < n
  · rw [if_pos h]; simp [h]
  · rw [if_neg h]; simp [h]
theorem bl_e (hn : n ≤ 300) (p : Nat) : isBl tx n (bl tx n p) = false := skp_end _ (fun _ => isBl_o) 300 p (by omega)
theorem we_e (hn : n ≤ 300) (p : Nat) : isSm tx n (we tx n p) = false := skp_end _ (fun _ => isSm_o) 300 p (by omega)
theorem de_e (hn : n ≤ 300) (p : Nat) : isDg tx n (de tx n p) = false := skp_end _ (fun _ => isDg_o) 300 p (by omega)
theorem bl_ge (p : Nat) : p ≤ bl tx n p := skp_ge _ _ _
theorem bl_le {p : Nat} (h : p ≤ n) : bl tx n p ≤ n := skp_le _ (fun _ => isBl_o) 300 p h
theorem bl_hi {p : Nat} (h : n ≤ p) : bl tx n p = p := skp_no (isBl_o h) 300
theorem bl_bl (hn : n ≤ 300) (p : Nat) : bl tx n (bl tx n p) = bl tx n p := skp_no (bl_e hn p) 300
theorem we_ge (p : Nat) : p ≤ we tx n p := skp_ge _ _ _
theorem we_le {p : Nat} (h : p ≤ n) : we tx n p ≤ n := skp_le _ (fun _ => isSm_o) 300 p h
theorem de_ge (p : Nat) : p ≤ de tx n p := skp_ge _ _ _
theorem de_le {p : Nat} (h : p ≤ n) : de tx n p ≤ n := skp_le _ (fun _ => isDg_o) 300 p h
theorem we_gt {p : Nat} (h : isSm tx n p = true) : p < we tx n p := by
  unfold we
  show p < skp (isSm tx n) (299 + 1) p
  unfold skp
  rw [if_pos h]
  exact skp_ge _ _ _
theorem de_gt {p : Nat} (h : isDg tx n p = true) : p < de tx n p := by
  unfold de
  show p < skp (isDg tx n) (299 + 1) p
  unfold skp
  rw [if_pos h]
  exact skp_ge _ _ _
theorem nx_ge (p : Nat) : p ≤ nx tx n p := by
  unfold nx
  repeat' split
  · exact Nat.le_refl _
  · exact we_ge p
  · exact de_ge p
  · omega
theorem nx_gt {p : Nat} (h : p < n) : p < nx tx n p := by
  unfold nx
  rw [if_neg (by omega)]
  split
  · next e => exact we_gt (isSm_iff.mpr ⟨h, e⟩)
  · split
    · next e => exact de_gt (isDg_iff.mpr ⟨h, e⟩)
    · omega
theorem nx_le {p : Nat} (h : p ≤ n) : nx tx n p ≤ n := by
  unfold nx
  repeat' split
  · exact h
  · exact we_le h
  · exact de_le h
  · omega
theorem tk_le {p : Nat} (h : p ≤ n) : tk tx n p ≤ n := bl_le (nx_le h)
theorem tk_gt {p : Nat} (h : p < n) : p < tk tx n p := Nat.lt_of_lt_of_le (nx_gt h) (bl_ge _)
theorem tk_ge (p : Nat) : p ≤ tk tx n p := Nat.le_trans (nx_ge p) (bl_ge _)
theorem tk_bl (hn : n ≤ 300) (p : Nat) : bl tx n (tk tx n p) = tk tx n p := bl_bl hn _
theorem kd_o {p : Nat} (h : n ≤ p) : kd tx n p = 318 := if_pos h
theorem wkd_in : ∀ w, w ∈ Wt → ∀ i, i < 16 → (wkd w = 300 + i ↔ w = Wt.getD i 0) := by decide +kernel
theorem wkd_no {w : Nat} (h : ¬ w ∈ Wt) : wkd w = 316 ∧ ∀ i, i < 16 → ¬ w = Wt.getD i 0 := by
  have h2 : ∀ i, i < 16 → ¬ w = Wt.getD i 0 := fun i hi e => h (by
    rw [e]
    exact (by decide +kernel : ∀ i, i < 16 → Wt.getD i 0 ∈ Wt) i hi)
  refine ⟨?_, h2⟩
  have : ∀ m i, i + m ≤ 16 → fld (fun i k => if w = Wt.getD i 0 then 300 + i else k) i m 316 = 316 := by
    intro m
    induction m with
    | zero => intro i _; rfl
    | succ m ih =>
      intro i hi
      show fld _ (i + 1) m (if w = Wt.getD i 0 then 300 + i else 316) = 316
      rw [if_neg (h2 i (by omega))]
      exact ih (i + 1) (by omega)
  exact this 16 0 (by omega)
theorem wkd_iff {w i : Nat} (hi : i < 16) : wkd w = 300 + i ↔ w = Wt.getD i 0 := by
  by_cases h : w ∈ Wt
  · exact wkd_in w h i hi
  · obtain ⟨h1, h2⟩ := wkd_no h
    rw [h1]
    exact ⟨fun q => absurd q (by omega), fun q => absurd q (h2 i hi)⟩
theorem wkd_r (w : Nat) : 300 ≤ wkd w ∧ wkd w ≤ 316 := by
  by_cases h : w ∈ Wt
  · exact (by decide +kernel : ∀ w, w ∈ Wt → 300 ≤ wkd w ∧ wkd w ≤ 316) w h
  · rw [(wkd_no h).1]; omega
theorem wd_0 (hn : n ≤ 300) {p : Nat} (h : isSm tx n p = false) : wd tx n p = 0 := by
  unfold wd we
  rw [skp_no h, Nat.sub_self]
  rfl
theorem kd_wd (hn : n ≤ 300) (ht : ∀ i, i < n → tx i < 256) {p i : Nat} (hi : i < 16) : kd tx n p = 300 + i ↔ wd tx n p = Wt.getD i 0 := by
  by_cases h : isSm tx n p = true
  · obtain ⟨h1, h2⟩ := isSm_iff.mp h
    unfold kd
    rw [if_neg (by omega), if_pos h2]
    exact wkd_iff hi
  · have h' : isSm tx n p = false := Bool.eq_false_iff.mpr h
    rw [wd_0 hn h']
    have hW : ∀ i, i < 16 → ¬ 0 = Wt.getD i 0 := by decide +kernel
    refine ⟨fun q => ?_, fun q => absurd q (hW i hi)⟩
    unfold kd at q
    by_cases a : n ≤ p
    · rw [if_pos a] at q; omega
    · rw [if_neg a] at q
      have b : ¬ (97 ≤ tx p ∧ tx p ≤ 122) := fun z => h (isSm_iff.mpr ⟨by omega, z⟩)
      rw [if_neg b] at q
      have := ht p (by omega)
      split at q <;> omega
/-- what a sign that is neither a word nor a number is -/
theorem kd_byt (hn : n ≤ 300) {p c : Nat} (hc : c < 256) (h1 : ¬ (97 ≤ c ∧ c ≤ 122)) (h2 : ¬ (48 ≤ c ∧ c ≤ 57)) : kd tx n p = c ↔ byt tx n p = c := by
  unfold kd byt
  by_cases a : n ≤ p
  · rw [if_pos a, if_neg (by omega)]; omega
  · rw [if_neg a, if_pos (show p < n by omega)]
    have := wkd_r (wd tx n p)
    repeat' split
    all_goals omega
theorem kd_num (hn : n ≤ 300) (ht : ∀ i, i < n → tx i < 256) {p : Nat} : kd tx n p = 317 ↔ isDg tx n p = true := by
  rw [isDg_iff]
  unfold kd
  by_cases a : n ≤ p
  · rw [if_pos a]; omega
  · rw [if_neg a]
    have := wkd_r (wd tx n p)
    have := ht p (by omega)
    repeat' split
    all_goals omega
theorem kd_end (ht : ∀ i, i < n → tx i < 256) {p : Nat} : kd tx n p = 318 ↔ n ≤ p := by
  unfold kd
  by_cases a : n ≤ p
  · rw [if_pos a]; simp [a]
  · rw [if_neg a]
    have := wkd_r (wd tx n p)
    have := ht p (by omega)
    repeat' split
    all_goals omega
theorem kd_le (ht : ∀ i, i < n → tx i < 256) (p : Nat) : kd tx n p ≤ 318 := by
  unfold kd
  by_cases a : n ≤ p
  · rw [if_pos a]; omega
  · rw [if_neg a]
    have := wkd_r (wd tx n p)
    have := ht p (by omega)
    repeat' split
    all_goals omega
theorem nvl_lt (ht : ∀ i, i < n → tx i < 256) {p : Nat} : ∀ k, k ≤ de tx n p - p → (cnl tx p k ≤ 9999 → cnl tx p k = nvl tx p k) ∧ (9999 < cnl tx p k → 9999 < nvl tx p k) ∧ cnl tx p k < 100000
  | 0, _ => ⟨fun _ => rfl, fun h => absurd (show 9999 < 0 from h) (by decide), show 0 < 100000 by decide⟩
  | k + 1, hk => by
    obtain ⟨h1, h2, h3⟩ := nvl_lt ht (p := p) k (by omega)
    have hd := isDg_iff.mp (skp_mid (isDg tx n) 300 p (p + k) (by omega) (by unfold de at hk; omega))
    unfold cnl nvl
    by_cases e : cnl tx p k ≤ 9999
    · rw [if_pos e, h1 e]
      have := h1 e
      refine ⟨fun _ => rfl, fun h => h, by omega⟩
    · rw [if_neg e]
      have := h2 (by omega)
      exact ⟨fun h => absurd h e, fun _ => by omega, h3⟩
theorem cnv_ok (ht : ∀ i, i < n → tx i < 256) (p : Nat) : (cnv tx n p ≤ 9999 ↔ nv tx n p ≤ 9999) ∧ (cnv tx n p ≤ 9999 → cnv tx n p = nv tx n p) ∧ cnv tx n p < 100000 := by
  obtain ⟨h1, h2, h3⟩ := nvl_lt ht (de tx n p - p) (Nat.le_refl _)
  refine ⟨⟨fun h => ?_, fun h => ?_⟩, h1, h3⟩
  · show nvl tx p _ ≤ 9999
    rw [← h1 h]; exact h
  · by_cases e : cnv tx n p ≤ 9999
    · exact e
    · have := h2 (by unfold cnv at e; omega)
      unfold nv at h
      omega
end TEXTL
