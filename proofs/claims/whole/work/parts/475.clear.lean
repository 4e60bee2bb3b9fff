/-! clear -/
def loB (s : Nat) : Nat → Nat
  | 0 => 0
  | c + 1 => if s.testBit c = true then c + 1 else loB s c
theorem loB_le (s : Nat) : ∀ c, loB s c ≤ c
  | 0 => Nat.le_refl _
  | c + 1 => by
    unfold loB
    split
    · exact Nat.le_refl _
    · have := loB_le s c; omega
def hiB (s : Nat) : Nat → Nat → Nat
  | 0, h => h
  | m + 1, h => if s.testBit h = true then h else hiB s m (h + 1)
theorem hiB_le (s : Nat) : ∀ m h, h ≤ hiB s m h ∧ hiB s m h ≤ h + m
  | 0, h => ⟨Nat.le_refl _, Nat.le_refl _⟩
  | m + 1, h => by
    unfold hiB
    split
    · omega
    · have := hiB_le s m (h + 1); omega
/-- the crease c can open: all parts on its one side lie above all on the other, as far as they hang together -/
def clr (n : Nat) (P : Nat → Nat) (s c : Nat) : Prop := (∀ x y, loB s c ≤ x → x ≤ c → c + 1 ≤ y → y ≤ hiB s (n - 2 - c) (c + 1) → P y < P x) ∨ (∀ x y, loB s c ≤ x → x ≤ c → c + 1 ≤ y → y ≤ hiB s (n - 2 - c) (c + 1) → P x < P y)
noncomputable def clrB (n : Nat) (P : Nat → Nat) (s c : Nat) : Bool := @decide (clr n P s c) (Classical.propDecidable _)
theorem clrB_iff {n : Nat} {P : Nat → Nat} {s c : Nat} : clrB n P s c = true ↔ clr n P s c := @decide_eq_true_iff _ (Classical.propDecidable _)
section CLEAR
variable {M : px_M} {n : Nat} {P : Nat → Nat}
theorem e_isOpen {s c : Nat} (hs : s < 2 ^ 31) (hc : c < 32) : f_X2_isOpen (nI c) (nI s) = some (b2 (s.testBit c)) := by
  unfold f_X2_isOpen f_X2_isOpen_14
  rw [ifi (bitI hs hc), ok_t zb0, ok_t zb1]
  cases s.testBit c <;> rfl
theorem c_lo {s : Nat} (hs : s < 2 ^ 31) (x : Int32) : ∀ c, c < 32 → lpf (fun a : Int32 => f_X2_isClear_2 M x (nI s) a) (nI c) = some (nI (loB s c))
  | 0, _ => lpf_end (by
      show f_X2_isClear_2 M x (nI s) (nI 0) = _
      unfold f_X2_isClear_2
      rw [if_pos (by decide)]; rfl)
  | c + 1, hc => by
    have hb : f_X2_isClear_2 M x (nI s) (nI (c + 1)) = if s.testBit c = false then some (.inl (nI c)) else some (.inr (nI (c + 1))) := by
      unfold f_X2_isClear_2
      rw [if_neg (nI_nle (by omega) (by omega)), nI_pred, e_isOpen hs (by omega), bd1_e, ifi b2_0, pk_m1]
    unfold loB
    by_cases q : s.testBit c = true
    · rw [if_pos q]
      exact lpf_end (by rw [hb, q]; rfl)
    · rw [if_neg q, lpf_go (show (fun a : Int32 => f_X2_isClear_2 M x (nI s) a) (nI (c + 1)) = _ from hb.trans (if_pos (Bool.eq_false_iff.mpr q)))]
      exact c_lo hs x c (by omega)
theorem c_hi (hn : M 1 0 = nI n) (hn8 : n ≤ 8) {s : Nat} (hs : s < 2 ^ 31) (x y : Int32) : ∀ m h, h + m + 1 = n → lpf (fun a : Int32 => f_X2_isClear_28 M x (nI s) y a) (nI h) = some (nI (hiB s m h))
  | 0, h, e => lpf_end (by
      show f_X2_isClear_28 M x (nI s) y (nI h) = _
      unfold f_X2_isClear_28
      rw [hn, show nI n - 1 = nI (n - 1) from pk_sub (b := 1) (by omega), if_pos (nI_le (by omega) (by omega))]; rfl)
  | m + 1, h, e => by
    have hb : f_X2_isClear_28 M x (nI s) y (nI h) = if s.testBit h = false then some (.inl (nI (h + 1))) else some (.inr (nI h)) := by
      unfold f_X2_isClear_28
      rw [hn, show nI n - 1 = nI (n - 1) from pk_sub (b := 1) (by omega), if_neg (nI_ge (by omega) (by omega)), e_isOpen hs (by omega), bd1_e, ifi b2_0, nI_1]
    unfold hiB
    by_cases q : s.testBit h = true
    · rw [if_pos q]
      exact lpf_end (by rw [hb, q]; rfl)
    · rw [if_neg q, lpf_go (show (fun a : Int32 => f_X2_isClear_28 M x (nI s) y a) (nI h) = _ from hb.trans (if_pos (Bool.eq_false_iff.mpr q)))]
      exact c_hi hn hn8 hs x y m (h + 1) (by omega)
theorem e_min_n {a b : Nat} (ha : a < 2 ^ 31) (hb : b < 2 ^ 31) : f_J9_min_7cf53 (nI a) (nI b) = some (nI (min a b)) := by
  rw [e_min, ifi (nI_ltI hb ha)]
  by_cases q : b < a
  · rw [if_pos q, show min a b = b by omega]
  · rw [if_neg q, show min a b = a by omega]
theorem e_max_n {a b : Nat} (ha : a < 2 ^ 31) (hb : b < 2 ^ 31) : f_J9_max_7cf53 (nI a) (nI b) = some (nI (max a b)) := by
  rw [e_max, ifi (nI_ltI ha hb)]
  by_cases q : a < b
  · rw [if_pos q, show max a b = b by omega]
  · rw [if_neg q, show max a b = a by omega]
theorem e_above (hP : ∀ p, p < n → M 3 p = nI (P p)) (hb : ∀ p, p < n → P p < 8) (hn8 : n ≤ 8) {a b c d : Nat} (h1 : a ≤ b) (h2 : b < n) (h3 : c ≤ d) (h4 : d < n) : ∃ q : Bool, f_X2_isAbove M (nI a) (nI b) (nI c) (nI d) = some (b2 q) ∧ (q = true ↔ ∀ x y, a ≤ x → x ≤ b → c ≤ y → y ≤ d → P y < P x) := by
  have K1 := lpf_for (body := fun z : Int32 × Int32 => f_X2_isAbove_7 M (nI b) (nI c) (nI d) z.1 z.2) (fun k (m : Nat) => (nI m, nI (a + k))) (fun k m => min m (P (a + k))) (fun k m => m ≤ 8 ∧ (∀ x, a ≤ x → x < a + k → m ≤ P x) ∧ (m = 8 ∨ ∃ x, a ≤ x ∧ x < a + k ∧ m = P x)) (fun m => nI m) (b + 1 - a)
    (fun k m hk hI => by
      obtain ⟨i1, i2, i3⟩ := hI
      have := hb (a + k) (by omega)
      refine ⟨?_, by omega, fun x q1 q2 => ?_, ?_⟩
      · show f_X2_isAbove_7 M (nI b) (nI c) (nI d) (nI m) (nI (a + k)) = _
        unfold f_X2_isAbove_7
        rw [if_neg (nI_nlt (by omega) (by omega)), ok_t (ix_k (show a + k < 8 by omega) (by decide)), nI_clamp (by omega), hP _ (by omega), e_min_n (by omega) (by omega), bd1_e, nI_1]; rfl
      · by_cases e : x = a + k
        · subst e; omega
        · have := i2 x q1 (by omega); omega
      · rcases Nat.le_total m (P (a + k)) with q | q
        · rw [Nat.min_eq_left q]
          rcases i3 with i3 | ⟨x, x1, x2, x3⟩
          · exact Or.inl i3
          · exact Or.inr ⟨x, x1, by omega, x3⟩
        · rw [Nat.min_eq_right q]
          exact Or.inr ⟨a + k, by omega, by omega, rfl⟩)
    (fun m _ => by
      show f_X2_isAbove_7 M (nI b) (nI c) (nI d) (nI m) (nI (a + (b + 1 - a))) = _
      unfold f_X2_isAbove_7
      rw [if_pos (nI_lt (by omega) (by omega))]) (b + 1 - a) 0 8 (by omega) ⟨by omega, fun x q1 q2 => absurd q1 (by omega), Or.inl rfl⟩
  obtain ⟨k1, k2, k3, k4⟩ := K1
  obtain ⟨lo, hlo⟩ : ∃ lo, lo = fld (fun k m => min m (P (a + k))) 0 (b + 1 - a) 8 := ⟨_, rfl⟩
  rw [← hlo] at k1 k2 k3 k4
  have K2 := lpf_for (body := fun z : Int32 × Int32 => f_X2_isAbove_39 M (nI d) (nI lo) z.1 z.2) (fun k (m : Nat) => (if k = 0 then -1 else nI m, nI (c + k))) (fun k m => if k = 0 then P c else max m (P (c + k))) (fun k m => m < 8 ∧ (∀ x, c ≤ x → x < c + k → P x ≤ m) ∧ (k = 0 ∨ ∃ x, c ≤ x ∧ x < c + k ∧ m = P x)) (fun m => nI m) (d + 1 - c)
    (fun k m hk hI => by
      obtain ⟨i1, i2, i3⟩ := hI
      have := hb (c + k) (by omega)
      refine ⟨?_, ?_, fun x q1 q2 => ?_, ?_⟩
      · show f_X2_isAbove_39 M (nI d) (nI lo) (if k = 0 then -1 else nI m) (nI (c + k)) = _
        unfold f_X2_isAbove_39
        rw [if_neg (nI_nlt (by omega) (by omega)), ok_t (ix_k (show c + k < 8 by omega) (by decide)), nI_clamp (by omega), hP _ (by omega)]
        by_cases e : k = 0
        · subst e
          simp only [if_true, Nat.add_zero, if_neg (show ¬ 0 + 1 = 0 by omega)]
          rw [e_max, if_pos (show -1 < nI (P c) from Int32.lt_of_lt_of_le (by decide : (-1 : Int32) < 0) (nI_pos' (by simp at this; omega))), bd1_e, nI_1]
        · simp only [if_neg e, if_neg (show ¬ k + 1 = 0 by omega)]
          rw [e_max_n (by omega) (by omega), bd1_e, nI_1]; rfl
      · split
        · have := hb c (by omega); omega
        · omega
      · by_cases e : k = 0
        · rw [if_pos e, show x = c by omega]; exact Nat.le_refl _
        · rw [if_neg e]
          by_cases e2 : x = c + k
          · subst e2; omega
          · have := i2 x q1 (by omega); omega
      · right
        by_cases e : k = 0
        · rw [if_pos e]; exact ⟨c, by omega, by omega, rfl⟩
        · rw [if_neg e]
          rcases Nat.le_total m (P (c + k)) with q | q
          · rw [Nat.max_eq_right q]; exact ⟨c + k, by omega, by omega, rfl⟩
          · rw [Nat.max_eq_left q]
            rcases i3 with i3 | ⟨x, x1, x2, x3⟩
            · exact absurd i3 e
            · exact ⟨x, x1, by omega, x3⟩)
    (fun m _ => by
      show f_X2_isAbove_39 M (nI d) (nI lo) (if d + 1 - c = 0 then -1 else nI m) (nI (c + (d + 1 - c))) = _
      unfold f_X2_isAbove_39
      rw [if_pos (nI_lt (by omega) (by omega)), if_neg (show ¬ d + 1 - c = 0 by omega)]) (d + 1 - c) 0 0 (by omega) ⟨by omega, fun x q1 q2 => absurd q1 (by omega), Or.inl rfl⟩
  obtain ⟨j1, j2, j3, j4⟩ := K2
  obtain ⟨hi, hhi⟩ : ∃ hi, hi = fld (fun k m => if k = 0 then P c else max m (P (c + k))) 0 (d + 1 - c) 0 := ⟨_, rfl⟩
  rw [← hhi] at j1 j2 j3 j4
  refine ⟨decide (hi < lo), ?_, ?_⟩
  · unfold f_X2_isAbove f_X2_isAbove_78
    rw [show lpf (fun z : Int32 × Int32 => f_X2_isAbove_7 M (nI b) (nI c) (nI d) z.1 z.2) (8, nI a) = _ from k1, bd1_e, show lpf (fun z : Int32 × Int32 => f_X2_isAbove_39 M (nI d) (nI lo) z.1 z.2) (-1, nI c) = _ from j1, bd1_e, ok_t zb0, ok_t zb1]
    by_cases q : hi < lo
    · rw [if_neg (nI_ge q (by omega)), decide_eq_true q]; rfl
    · rw [if_pos (nI_le (by omega) (by omega)), decide_eq_false q]; rfl
  · rw [decide_eq_true_iff]
    constructor
    · intro q x y x1 x2 y1 y2
      have := k3 x x1 (by omega)
      have := j3 y y1 (by omega)
      omega
    · intro q
      rcases j4 with j4 | ⟨y, y1, y2, y3⟩
      · omega
      · rcases k4 with k4 | ⟨x, x1, x2, x3⟩
        · have := hb y (by omega); omega
        · rw [y3, x3]; exact q x y x1 (by omega) y1 (by omega)
theorem c_isClear (hn : M 1 0 = nI n) (hn8 : n ≤ 8) (hP : ∀ p, p < n → M 3 p = nI (P p)) (hb : ∀ p, p < n → P p < 8) {s c : Nat} (hs : s < 2 ^ 31) (hc : c + 1 < n) : f_X2_isClear M (nI c) (nI s) = some (b2 (clrB n P s c)) := by
  have hl := loB_le s c
  have hh := hiB_le s (n - 2 - c) (c + 1)
  obtain ⟨q1, a1, a2⟩ := e_above hP hb hn8 (a := loB s c) (b := c) (c := c + 1) (d := hiB s (n - 2 - c) (c + 1)) hl (by omega) hh.1 (by omega)
  obtain ⟨q2, b1, b2'⟩ := e_above hP hb hn8 (a := c + 1) (b := hiB s (n - 2 - c) (c + 1)) (c := loB s c) (d := c) hh.1 (by omega) hl (by omega)
  unfold f_X2_isClear f_X2_isClear_83 f_X2_isClear_88
  rw [c_lo hs _ c (by omega), bd1_e, nm_u, nI_1, c_hi hn hn8 hs _ _ (n - 2 - c) (c + 1) (by omega), bd1_e, a1, bd1_e, b1, bd1_e, ok_t zb0, ok_t zb1, ifi b2_0, ifi b2_0]
  have key : clrB n P s c = (q1 || q2) := by
    rw [Bool.eq_iff_iff, clrB_iff, Bool.or_eq_true, a2, b2']
    unfold clr
    constructor
    · rintro (h | h)
      · exact Or.inl h
      · exact Or.inr fun x y x1 x2 y1 y2 => h y x y1 y2 x1 x2
    · rintro (h | h)
      · exact Or.inl h
      · exact Or.inr fun x y x1 x2 y1 y2 => h y x y1 y2 x1 x2
  rw [key]
  cases q1 <;> cases q2 <;> rfl
/-! the reference's -/
theorem m_lay2 {x : Int32} (hn : M 73 1 = nI n) (hn8 : n ≤ 8) {row : List Nat} (hF : Full n row) (ht : ∀ j, j < n → M 74 j = nI (row.getD j 0)) :
    ∃ M', lpf (fun a : Int32 × px_M => f_X12_isClear_2 a.2 x a.1) (0, M) = some M' ∧ (∀ a j, a ≠ 75 → M' a j = M a j) ∧ ∀ p, p < n → M' 75 p = nI (row.idxOf p) := by
  obtain ⟨f1, f2, f3, f4⟩ := hF
  have hg : ∀ j, j < n → row.getD j 0 < n := fun j hj => by
    rw [gd_in (by omega)]
    exact f4 _ (List.getElem_mem _)
  have K := lpf_for (body := fun a : Int32 × px_M => f_X12_isClear_2 a.2 x a.1) (fun i (M' : px_M) => (nI i, M')) (fun i M' => px_u M' 75 (row.getD i 0) (nI i))
    (fun k M' => (∀ a j, a ≠ 75 → M' a j = M a j) ∧ (∀ j, j < k → M' 75 (row.getD j 0) = nI j)) (fun M' => M') n
    (fun i M' hi hP => by
      obtain ⟨p1, p2⟩ := hP
      have := hg i hi
      refine ⟨?_, fun a j q1 => ?_, fun j hj => ?_⟩
      · show f_X12_isClear_2 M' x (nI i) = _
        unfold f_X12_isClear_2
        have e4 : M' 74 i = nI (row.getD i 0) := by rw [p1 74 i (by decide)]; exact ht i hi
        simp only [p1 73 1 (by decide), hn, if_neg (nI_ge hi (by omega : n < 2 ^ 31)), ok_t (ix_k (show i < 8 by omega) (by decide : 8 < 2 ^ 31)), nI_clamp (show i < 2 ^ 31 by omega), nm_u, e4, ok_t (ix_k (show row.getD i 0 < 8 by omega) (by decide : 8 < 2 ^ 31)), nI_clamp (show row.getD i 0 < 2 ^ 31 by omega), nI_1]
      · rw [pu_n (by omega)]; exact p1 a j q1
      · by_cases e : j = i
        · subst e; exact px_u_in _ _ _ _
        · have hne : row.getD j 0 ≠ row.getD i 0 := fun q => e (nd_get f1 (by omega) (by omega) q)
          rw [pu_n (by omega)]; exact p2 j (by omega))
    (fun M' hP => by
      show f_X12_isClear_2 M' x (nI n) = _
      unfold f_X12_isClear_2
      rw [hP.1 73 1 (by decide), hn, if_pos (Int32.le_refl _)]) n 0 M (by omega) ⟨fun _ _ _ => rfl, fun j hj => absurd hj (by omega)⟩
  refine ⟨_, K.1, K.2.1, fun p hp => ?_⟩
  have h1 := ix_lt (f3 p hp)
  have h2 := K.2.2 (row.idxOf p) (by omega)
  rw [gd_in h1, List.getElem_idxOf h1] at h2
  exact h2
theorem m_lo {s : Nat} (hs : ∀ i, i < 8 → M 78 i = b2 (s.testBit i)) (x y : Int32) : ∀ c, c < 8 → lpf (fun a : Int32 => f_X12_isClear_34 M x a y) (nI c) = some (nI (loB s c))
  | 0, _ => lpf_end (by
      show f_X12_isClear_34 M x (nI 0) y = _
      unfold f_X12_isClear_34
      rw [if_pos (by decide)]; rfl)
  | c + 1, hc => by
    have hb : f_X12_isClear_34 M x (nI (c + 1)) y = if s.testBit c = false then some (.inl (nI c)) else some (.inr (nI (c + 1))) := by
      unfold f_X12_isClear_34
      rw [if_neg (nI_nle (by omega) (by omega)), nm_u, nI_pred, ok_t (ix_k (show c < 8 by omega) (by decide)), nI_clamp (by omega), hs c (by omega), ifi b2_0, pk_m1]
    unfold loB
    by_cases q : s.testBit c = true
    · rw [if_pos q]
      exact lpf_end (by rw [hb, q]; rfl)
    · rw [if_neg q, lpf_go (body := fun a : Int32 => f_X12_isClear_34 M x a y) (a := nI (c + 1)) (hb.trans (if_pos (Bool.eq_false_iff.mpr q)))]
      exact m_lo hs x y c (by omega)
theorem m_hi (hn : M 73 1 = nI n) (hn8 : n ≤ 8) {s : Nat} (hs : ∀ i, i < 8 → M 78 i = b2 (s.testBit i)) (x y : Int32) : ∀ m h, h + m + 1 = n → lpf (fun a : Int32 => f_X12_isClear_55 M x y a) (nI h) = some (nI (hiB s m h))
  | 0, h, e => lpf_end (by
      show f_X12_isClear_55 M x y (nI h) = _
      unfold f_X12_isClear_55
      rw [hn, show nI n - 1 = nI (n - 1) from pk_sub (b := 1) (by omega), if_pos (nI_le (by omega) (by omega))]; rfl)
  | m + 1, h, e => by
    have hb : f_X12_isClear_55 M x y (nI h) = if s.testBit h = false then some (.inl (nI (h + 1))) else some (.inr (nI h)) := by
      unfold f_X12_isClear_55
      rw [hn, show nI n - 1 = nI (n - 1) from pk_sub (b := 1) (by omega), if_neg (nI_ge (by omega) (by omega)), ok_t (ix_k (show h < 8 by omega) (by decide)), nI_clamp (by omega), hs h (by omega), ifi b2_0, nI_1]
    unfold hiB
    by_cases q : s.testBit h = true
    · rw [if_pos q]
      exact lpf_end (by rw [hb, q]; rfl)
    · rw [if_neg q, lpf_go (show (fun a : Int32 => f_X12_isClear_55 M x y a) (nI h) = _ from hb.trans (if_pos (Bool.eq_false_iff.mpr q)))]
      exact m_hi hn hn8 hs x y m (h + 1) (by omega)
/-- one of the four bounds: the least (9 if there is none) and the most (-1, here 0 below 1) of the parts of a range -/
def LoOf (P : Nat → Nat) (a b m : Nat) : Prop := (∀ x, a ≤ x → x < b → m ≤ P x) ∧ ((b ≤ a ∧ m = 9) ∨ ∃ x, a ≤ x ∧ x < b ∧ m = P x)
def HiOf (P : Nat → Nat) (a b m : Nat) : Prop := (∀ x, a ≤ x → x < b → P x < m) ∧ ((b ≤ a ∧ m = 0) ∨ ∃ x, a ≤ x ∧ x < b ∧ m = P x + 1)
theorem m_isClear (hn : M 73 1 = nI n) (hn8 : n ≤ 8) {row : List Nat} (hF : Full n row) (ht : ∀ j, j < n → M 74 j = nI (row.getD j 0)) {s c : Nat} (hs : ∀ i, i < 8 → M 78 i = b2 (s.testBit i)) (hc : c + 1 < n) :
    ∃ M', f_X12_isClear M (nI c) = some (b2 (clrB n (fun p => row.idxOf p) s c), M') ∧ ∀ a j, a ≠ 75 → M' a j = M a j := by
  obtain ⟨M1, l1, l2, l3⟩ := m_lay2 (x := nI c) hn hn8 hF ht
  have hF' := hF
  obtain ⟨f1, f2, f3, f4⟩ := hF
  obtain ⟨P, hPd⟩ : ∃ P, P = fun p => row.idxOf p := ⟨_, rfl⟩
  have hP : ∀ p, p < n → M1 75 p = nI (P p) := fun p hp => by rw [l3 p hp, hPd]
  have hb : ∀ p, p < n → P p < 8 := fun p hp => by rw [hPd]; have := ix_lt (f3 p hp); dsimp only; omega
  have e1 : M1 73 1 = nI n := by rw [l2 73 1 (by decide)]; exact hn
  have hs1 : ∀ i, i < 8 → M1 78 i = b2 (s.testBit i) := fun i hi => by rw [l2 78 i (by decide)]; exact hs i hi
  have hl := loB_le s c
  have hh := hiB_le s (n - 2 - c) (c + 1)
  obtain ⟨lo, hlo⟩ : ∃ lo, lo = loB s c := ⟨_, rfl⟩
  obtain ⟨hi, hhi⟩ : ∃ hi, hi = hiB s (n - 2 - c) (c + 1) := ⟨_, rfl⟩
  rw [← hlo] at hl
  rw [← hhi] at hh
  have K := lpf_for (body := fun a : Int32 × Int32 × Int32 × Int32 × Int32 => f_X12_isClear_97 M1 (nI c) (nI hi) a.1 a.2.1 a.2.2.1 a.2.2.2.1 a.2.2.2.2) (fun k (m : Nat × Nat × Nat × Nat) => (nI m.1, nI m.2.1 - 1, nI m.2.2.1, nI m.2.2.2 - 1, nI (lo + k)))
    (fun k m => if c < lo + k then (m.1, m.2.1, min m.2.2.1 (P (lo + k)), max m.2.2.2 (P (lo + k) + 1)) else (min m.1 (P (lo + k)), max m.2.1 (P (lo + k) + 1), m.2.2.1, m.2.2.2))
    (fun k m => (m.1 ≤ 9 ∧ m.2.1 ≤ 8 ∧ m.2.2.1 ≤ 9 ∧ m.2.2.2 ≤ 8) ∧ LoOf P lo (min (lo + k) (c + 1)) m.1 ∧ HiOf P lo (min (lo + k) (c + 1)) m.2.1 ∧ LoOf P (c + 1) (lo + k) m.2.2.1 ∧ HiOf P (c + 1) (lo + k) m.2.2.2) (fun m => (nI m.1, nI m.2.1 - 1, nI m.2.2.1, nI m.2.2.2 - 1)) (hi + 1 - lo)
    (fun k m hk hI => by
      obtain ⟨⟨b1, b2, b3, b4⟩, i1, i2, i3, i4⟩ := hI
      have hpb := hb (lo + k) (by omega)
      have t1 : ∀ a b : Nat, a < 2 ^ 30 → b < 2 ^ 30 → (nI b ≤ nI a - 1 ↔ b + 1 ≤ a) := by
        intro a b ha hb
        rw [Int32.le_iff_toInt_le, nI_toInt (by omega), show (nI a - 1).toInt = (a : Int) - 1 from pk_sub_toInt (b := 1) ha (by decide)]
        omega
      refine ⟨?_, ?_⟩
      · show f_X12_isClear_97 M1 (nI c) (nI hi) (nI m.1) (nI m.2.1 - 1) (nI m.2.2.1) (nI m.2.2.2 - 1) (nI (lo + k)) = _
        unfold f_X12_isClear_97 f_X12_isClear_167 f_X12_isClear_132 f_X12_isClear_183 f_X12_isClear_148 f_X12_isClear_185
        rw [if_neg (nI_nlt (by omega) (by omega)), ok_t (ix_k (show lo + k < 8 by omega) (by decide)), nI_clamp (by omega), nm_u, hP _ (by omega), nI_1, ifi (nI_ltI (by omega) (by omega))]
        have mx : ∀ z : Nat, z ≤ 8 → (if nI (P (lo + k)) ≤ nI z - 1 then nI z - 1 else nI (P (lo + k))) = nI (max z (P (lo + k) + 1)) - 1 := by
          intro z hz
          rw [ifi (t1 z (P (lo + k)) (by omega) (by omega))]
          by_cases q : P (lo + k) + 1 ≤ z
          · rw [if_pos q, Nat.max_eq_left q]
          · rw [if_neg q, Nat.max_eq_right (by omega), nI_pred]
        by_cases q : c < lo + k
        · simp only [q, if_true]
          have h1 := mx m.2.2.2 b4
          rw [ifi (nI_leI (a := m.2.2.1) (b := P (lo + k)) (by omega) (by omega))]
          by_cases q2 : m.2.2.1 ≤ P (lo + k)
          · rw [if_pos q2, Nat.min_eq_left q2, ← h1]; split <;> rfl
          · rw [if_neg q2, Nat.min_eq_right (by omega), ← h1]; split <;> rfl
        · simp only [q, if_false]
          have h1 := mx m.2.1 b2
          rw [ifi (nI_leI (a := m.1) (b := P (lo + k)) (by omega) (by omega))]
          by_cases q2 : m.1 ≤ P (lo + k)
          · rw [if_pos q2, Nat.min_eq_left q2, ← h1]; split <;> rfl
          · rw [if_neg q2, Nat.min_eq_right (by omega), ← h1]; split <;> rfl
      · have stepL : ∀ a z, LoOf P a (lo + k) z → a ≤ lo + k → z ≤ 9 → LoOf P a (lo + k + 1) (min z (P (lo + k))) := by
          rintro a z ⟨z1, z2⟩ ha hz
          refine ⟨fun x x1 x2 => ?_, Or.inr ?_⟩
          · by_cases e : x = lo + k
            · subst e; omega
            · have := z1 x x1 (by omega); omega
          · rcases Nat.le_total z (P (lo + k)) with q | q
            · rw [Nat.min_eq_left q]
              rcases z2 with z2 | ⟨x, x1, x2, x3⟩
              · omega
              · exact ⟨x, x1, by omega, x3⟩
            · rw [Nat.min_eq_right q]; exact ⟨lo + k, ha, by omega, rfl⟩
        have stepH : ∀ a z, HiOf P a (lo + k) z → a ≤ lo + k → HiOf P a (lo + k + 1) (max z (P (lo + k) + 1)) := by
          rintro a z ⟨z1, z2⟩ ha
          refine ⟨fun x x1 x2 => ?_, Or.inr ?_⟩
          · by_cases e : x = lo + k
            · subst e; omega
            · have := z1 x x1 (by omega); omega
          · rcases Nat.le_total z (P (lo + k) + 1) with q | q
            · rw [Nat.max_eq_right q]; exact ⟨lo + k, ha, by omega, rfl⟩
            · rw [Nat.max_eq_left q]
              rcases z2 with z2 | ⟨x, x1, x2, x3⟩
              · omega
              · exact ⟨x, x1, by omega, x3⟩
        by_cases q : c < lo + k
        · simp only [q, if_true]
          have e1 : min (lo + (k + 1)) (c + 1) = min (lo + k) (c + 1) := by omega
          rw [e1]
          exact ⟨⟨b1, b2, by omega, by omega⟩, i1, i2, stepL _ _ i3 (by omega) b3, stepH _ _ i4 (by omega)⟩
        · simp only [q, if_false]
          have e1 : min (lo + k) (c + 1) = lo + k := by omega
          have e2 : min (lo + (k + 1)) (c + 1) = lo + k + 1 := by omega
          rw [e1] at i1 i2
          rw [e2]
          refine ⟨⟨by omega, by omega, b3, b4⟩, stepL _ _ i1 (by omega) b1, stepH _ _ i2 (by omega), ?_, ?_⟩
          · obtain ⟨z1, z2⟩ := i3
            refine ⟨fun x x1 x2 => absurd x1 (by omega), Or.inl ?_⟩
            rcases z2 with z2 | ⟨x, x1, x2, x3⟩
            · exact ⟨by omega, z2.2⟩
            · omega
          · obtain ⟨z1, z2⟩ := i4
            refine ⟨fun x x1 x2 => absurd x1 (by omega), Or.inl ?_⟩
            rcases z2 with z2 | ⟨x, x1, x2, x3⟩
            · exact ⟨by omega, z2.2⟩
            · omega)
    (fun m _ => by
      show f_X12_isClear_97 M1 (nI c) (nI hi) _ _ _ _ (nI (lo + (hi + 1 - lo))) = _
      unfold f_X12_isClear_97
      rw [if_pos (nI_lt (by omega) (by omega))]) (hi + 1 - lo) 0 (9, 0, 9, 0) (by omega) ⟨by decide, ⟨fun x x1 x2 => absurd x1 (by omega), Or.inl ⟨by omega, rfl⟩⟩, ⟨fun x x1 x2 => absurd x1 (by omega), Or.inl ⟨by omega, rfl⟩⟩, ⟨fun x x1 x2 => absurd x1 (by omega), Or.inl ⟨by omega, rfl⟩⟩, ⟨fun x x1 x2 => absurd x1 (by omega), Or.inl ⟨by omega, rfl⟩⟩⟩
  obtain ⟨k1, ⟨b1, b2, b3, b4⟩, k2, k3, k4, k5⟩ := K
  generalize fld (fun k (m : Nat × Nat × Nat × Nat) => if c < lo + k then (m.1, m.2.1, min m.2.2.1 (P (lo + k)), max m.2.2.2 (P (lo + k) + 1)) else (min m.1 (P (lo + k)), max m.2.1 (P (lo + k) + 1), m.2.2.1, m.2.2.2)) 0 (hi + 1 - lo) (9, 0, 9, 0) = m at *
  obtain ⟨lA, hA, lB, hB⟩ := m
  dsimp only at k1 b1 b2 b3 b4 k2 k3 k4 k5
  rw [show min (lo + (hi + 1 - lo)) (c + 1) = c + 1 by omega] at k2 k3
  rw [show lo + (hi + 1 - lo) = hi + 1 by omega] at k4 k5
  have t2 : ∀ a b : Nat, a < 2 ^ 30 → b < 2 ^ 30 → (nI b - 1 < nI a ↔ b < a + 1) := by
    intro a b ha hb
    rw [Int32.lt_iff_toInt_lt, nI_toInt (by omega), show (nI b - 1).toInt = (b : Int) - 1 from pk_sub_toInt (b := 1) hb (by decide)]
    omega
  have t1 : ∀ a b : Nat, a < 2 ^ 30 → b < 2 ^ 30 → (nI b ≤ nI a - 1 ↔ b + 1 ≤ a) := by
    intro a b ha hb
    rw [Int32.le_iff_toInt_le, nI_toInt (by omega), show (nI a - 1).toInt = (a : Int) - 1 from pk_sub_toInt (b := 1) ha (by decide)]
    omega
  refine ⟨M1, ?_, l2⟩
  unfold f_X12_isClear f_X12_isClear_205 f_X12_isClear_210
  rw [l1, bd1_e, nm_u, nI_1, m_lo hs1 _ _ c (by omega), bd1_e, m_hi e1 hn8 hs1 _ _ (n - 2 - c) (c + 1) (by omega), bd1_e, ← hlo, ← hhi, show lpf (fun a : Int32 × Int32 × Int32 × Int32 × Int32 => f_X12_isClear_97 M1 (nI c) (nI hi) a.1 a.2.1 a.2.2.1 a.2.2.2.1 a.2.2.2.2) (9, -1, 9, -1, nI lo) = _ from k1, bd1_e, ok_t zb0, ok_t zb1]
  dsimp only
  rw [ifi (t2 lA hB (by omega) (by omega)), ifi (t1 hA lB (by omega) (by omega)), ← hPd]
  have hx : ∃ x, lo ≤ x ∧ x ≤ c := ⟨c, hl, Nat.le_refl _⟩
  have key : clrB n P s c = (decide (hB < lA + 1) || decide (hA < lB + 1)) := by
    rw [Bool.eq_iff_iff, clrB_iff, Bool.or_eq_true, decide_eq_true_iff, decide_eq_true_iff]
    unfold clr
    rw [← hlo, ← hhi]
    obtain ⟨k2a, k2b⟩ := k2
    obtain ⟨k3a, k3b⟩ := k3
    obtain ⟨k4a, k4b⟩ := k4
    obtain ⟨k5a, k5b⟩ := k5
    constructor
    · rintro (h | h)
      · left
        rcases k2b with k2b | ⟨x, x1, x2, x3⟩
        · omega
        · rcases k5b with k5b | ⟨y, y1, y2, y3⟩
          · omega
          · have := h x y x1 (by omega) y1 (by omega); omega
      · right
        rcases k3b with k3b | ⟨x, x1, x2, x3⟩
        · omega
        · rcases k4b with k4b | ⟨y, y1, y2, y3⟩
          · omega
          · have := h x y x1 (by omega) y1 (by omega); omega
    · rintro (h | h)
      · left
        intro x y x1 x2 y1 y2
        have := k2a x x1 (by omega)
        have := k5a y y1 (by omega)
        omega
      · right
        intro x y x1 x2 y1 y2
        have := k3a x x1 (by omega)
        have := k4a y y1 (by omega)
        omega
  rw [key]
  by_cases c1 : hB < lA + 1
  · rw [if_pos c1, decide_eq_true c1]; rfl
  · rw [if_neg c1, decide_eq_false c1]
    by_cases c2 : lB + 1 ≤ hA
    · rw [if_pos c2, decide_eq_false (show ¬ hA < lB + 1 by omega)]; rfl
    · rw [if_neg c2, decide_eq_true (show hA < lB + 1 by omega)]; rfl
end CLEAR
