/-! strips: the class's search -/
theorem ifi {α : Type} {c d : Prop} [Decidable c] [Decidable d] (h : c ↔ d) {x y : α} : (if c then x else y) = (if d then x else y) := by
  by_cases q : d
  · rw [if_pos q, if_pos (h.mpr q)]
  · rw [if_neg q, if_neg (fun x => q (h.mp x))]
def mask (l : List Nat) : Nat := l.foldl (fun a p => a ||| 2 ^ p) 0
theorem mask_app (l : List Nat) (p : Nat) : mask (l ++ [p]) = mask l ||| 2 ^ p := by unfold mask; rw [List.foldl_append]; rfl
theorem mask_tb (p : Nat) : ∀ (l : List Nat) (a : Nat), (l.foldl (fun a p => a ||| 2 ^ p) a).testBit p = (a.testBit p || l.contains p)
  | [], a => by simp
  | q :: t, a => by
    rw [List.foldl_cons, mask_tb p t, Nat.testBit_or, Nat.testBit_two_pow, List.contains_cons]
    by_cases e : q = p
    · subst e; simp
    · simp [e, show (p == q) = false from beq_eq_false_iff_ne.mpr (fun x => e x.symm)]
theorem mask_bit (l : List Nat) (p : Nat) : (mask l).testBit p = l.contains p := by unfold mask; rw [mask_tb]; simp
theorem mask_lt {n : Nat} {l : List Nat} (h : ∀ p, p ∈ l → p < n) : mask l < 2 ^ n := by
  apply Nat.lt_pow_two_of_testBit
  intro i hi
  rw [mask_bit]
  apply Bool.eq_false_iff.mpr
  intro q
  have := h i (List.contains_iff_mem.mp q)
  omega
def enc : List Nat → Nat
  | [] => 0
  | c :: s => enc s * 16 + (c + 1)
theorem enc_lt : ∀ (s : List Nat), (∀ c, c ∈ s → c < 8) → enc s < 16 ^ s.length
  | [], _ => by decide
  | c :: s, h => by
    have h1 := enc_lt s fun x hx => h x (List.mem_cons_of_mem _ hx)
    have h2 := h c List.mem_cons_self
    unfold enc
    rw [List.length_cons, Nat.pow_succ]
    omega
theorem SI_enc {n par : Nat} {l s : List Nat} (hn : n ≤ 8) (h : SI n par l s) : enc s < 2 ^ 28 := by
  have hb : ∀ c, c ∈ s → c < 7 := fun c hc => by have := ((h.1 c).mp hc).1.2; omega
  have hd : s.Nodup := by
    refine List.Pairwise.imp ?_ h.2
    intro a b q e
    rw [e] at q
    exact Nat.lt_irrefl _ q
  have h1 := nd_len 7 s hd hb
  have h2 := enc_lt s fun c hc => by have := hb c hc; omega
  have h3 : 16 ^ s.length ≤ 16 ^ 7 := Nat.pow_le_pow_right (by decide) h1
  have : (16 : Nat) ^ 7 = 2 ^ 28 := by decide
  omega
def b2 (b : Bool) : Int32 := if b = true then 1 else 0
theorem b2_z (b : Bool) : zb (b2 b) = true := by cases b <;> rfl
theorem b2_0 {b : Bool} : b2 b = 0 ↔ b = false := by cases b <;> decide
theorem b2_e {a b : Bool} : b2 a = b2 b ↔ a = b := by cases a <;> cases b <;> decide
theorem bitI {s t : Nat} (hs : s < 2 ^ 31) (ht : t < 32) : ((nI s >>> (nI t &&& 31)) &&& 1 = 1) ↔ s.testBit t = true := bit_iff hs ht
theorem bit0 {s t : Nat} (hs : s < 2 ^ 31) (ht : t < 32) : ((nI s >>> (nI t &&& 31)) &&& 1 = 0) ↔ s.testBit t = false := by
  rw [bit1 hs ht, show (0 : Int32) = nI 0 from rfl, nI_eq (by omega) (by decide), Nat.testBit_eq_decide_div_mod_eq]
  simp
theorem ev2 {p : Nat} (hp : p < 2 ^ 31) : (nI p - nI p / 2 * 2 = 0) ↔ p % 2 = 0 := by
  rw [show (2 : Int32) = nI 2 from rfl, pk_rem hp (by decide) (by decide), show (0 : Int32) = nI 0 from rfl, nI_eq (by omega) (by decide)]
section FOLD
variable {M : px_M} {n u : Nat}
theorem e_rises (hu : M 1 1 = nI u) (hu2 : u < 2 ^ 31) {i : Nat} (hi : i < 31) : f_X2_rises M (nI i) = some (b2 (rsB u i)) := by
  unfold f_X2_rises f_X2_rises_17 f_X2_rises_30 f_X2_rises_38
  simp only [hu, bitI hu2 (show i < 32 by omega), ev2 (show i < 2 ^ 31 by omega), ok_t zb0, ok_t zb1]
  unfold rsB b2
  by_cases h1 : u.testBit i = true <;> by_cases h2 : i % 2 = 0 <;> simp [h1, h2]
theorem mayC (hn : M 1 0 = nI n) (hu : M 1 1 = nI u) (hu2 : u < 2 ^ 31) (hn8 : n ≤ 8) {l : List Nat} (hl : ∀ p, p ∈ l → p < n) {p : Nat} (hp : p < n) : f_X2_mayCome M (nI p) (nI (mask l)) = some (b2 (okPt n u l p)) := by
  have hm : mask l < 2 ^ 31 := Nat.lt_of_lt_of_le (mask_lt hl) (Nat.pow_le_pow_right (by decide) (by omega))
  have hr := e_rises hu hu2 (i := p) (by omega)
  have h97 : ∀ a b : Bool, f_X2_mayCome_97 M (b2 a) (b2 b) = some (b2 (a && b)) := by
    intro a b
    unfold f_X2_mayCome_97 f_X2_mayCome_113 f_X2_mayCome_114
    cases a <;> cases b <;> rfl
  have h70 : ∀ x4 z : Bool, f_X2_mayCome_70 M (nI p) (b2 x4) (b2 z) = some (b2 (z && (decide (p = n - 1) || (x4 != rsB u p)))) := by
    intro x4 z
    unfold f_X2_mayCome_70 f_X2_mayCome_92
    rw [hn, show nI n - 1 = nI (n - 1) from pk_sub (b := 1) (by omega), ifi (nI_eq (by omega) (by omega)), hr, bd1_e]
    by_cases e : p = n - 1
    · rw [if_pos e, show (1 : Int32) = b2 true from rfl, h97]; simp [e]
    · rw [if_neg e, ifi b2_e]
      by_cases e2 : x4 = rsB u p
      · rw [if_pos e2, show (0 : Int32) = b2 false from rfl, h97]; simp [e, e2]
      · have e3 : (x4 != rsB u p) = true := bne_iff_ne.mpr e2
        rw [if_neg e2, show (1 : Int32) = b2 true from rfl, h97, e3]; simp [e]
  have h48 : ∀ x3 x4 : Bool, f_X2_mayCome_48 M (nI p) (b2 x3) (b2 x4) = some (b2 ((decide (p = 0) || (x3 == rsB u (p - 1))) && (decide (p = n - 1) || (x4 != rsB u p)))) := by
    intro x3 x4
    unfold f_X2_mayCome_48 f_X2_mayCome_65
    rw [show (0 : Int32) = nI 0 from rfl, ifi (nI_eq (by omega) (by decide))]
    by_cases e : p = 0
    · rw [if_pos e, show (1 : Int32) = b2 true from rfl, h70]; simp [e]
    · rw [if_neg e, show nI p - 1 = nI (p - 1) from pk_sub (b := 1) (by omega), e_rises hu hu2 (i := p - 1) (by omega), bd1_e, ifi b2_e]
      by_cases e2 : x3 = rsB u (p - 1)
      · rw [if_pos e2, show (1 : Int32) = b2 true from rfl, h70]; simp [e, e2]
      · have e3 : (x3 == rsB u (p - 1)) = false := beq_eq_false_iff_ne.mpr e2
        rw [if_neg e2, show nI 0 = b2 false from rfl, h70, e3]; simp [e]
  have h31 : ∀ x3 : Bool, f_X2_mayCome_31 M (nI p) (nI (mask l)) (b2 x3) = some (b2 ((decide (p = 0) || (x3 == rsB u (p - 1))) && (decide (p = n - 1) || (l.contains (p + 1) != rsB u p)))) := by
    intro x3
    unfold f_X2_mayCome_31
    rw [nI_1, ifi (bitI hm (show p + 1 < 32 by omega)), mask_bit]
    by_cases e : l.contains (p + 1) = true
    · rw [if_pos e, show (1 : Int32) = b2 true from rfl, h48, e]
    · rw [if_neg e, show (0 : Int32) = b2 false from rfl, h48, Bool.eq_false_iff.mpr e]
  unfold f_X2_mayCome f_X2_mayCome_30
  rw [ifi (bitI hm (show p < 32 by omega)), mask_bit]
  unfold okPt
  by_cases e : l.contains p = true
  · rw [if_pos e, e]; rfl
  · rw [if_neg e, Bool.eq_false_iff.mpr e]
    by_cases e0 : p = 0
    · rw [if_pos (by rw [e0]; decide), show (0 : Int32) = b2 false from rfl, h31]; simp [e0]
    · rw [if_neg (nI_nle (by omega) (by omega)), show nI p - 1 = nI (p - 1) from pk_sub (b := 1) (by omega), ifi (bitI hm (show p - 1 < 32 by omega)), mask_bit]
      by_cases e2 : l.contains (p - 1) = true
      · rw [if_pos e2, show (1 : Int32) = b2 true from rfl, h31, e2]; simp
      · rw [if_neg e2, show (0 : Int32) = b2 false from rfl, h31, Bool.eq_false_iff.mpr e2]; simp
/-- the class's crease of a parity -/
def crI (par p : Nat) : Int32 := if p % 2 = par then nI p else nI p - 1
theorem e_even {p : Nat} (hp : p < 2 ^ 31) : f_X2_evenCrease (nI p) = some (crI 0 p) := by
  unfold f_X2_evenCrease f_X2_evenCrease_13 crI
  simp only [ev2 hp]
  split <;> rfl
theorem e_odd {p : Nat} (hp : p < 2 ^ 31) : f_X2_oddCrease (nI p) = some (crI 1 p) := by
  unfold f_X2_oddCrease f_X2_oddCrease_13 crI
  simp only [ev2 hp]
  by_cases h : p % 2 = 0
  · rw [if_pos h, if_neg (by omega)]
  · rw [if_neg h, if_pos (by omega)]
def encO (s : Option (List Nat)) : Int32 := match s with
  | none => -1
  | some t => nI (enc t)
theorem or16 {a b : Nat} (hb : b < 16) : a * 16 ||| b = a * 16 + b := by
  have := Nat.shiftLeft_add_eq_or_of_lt (i := 4) hb a
  rw [Nat.shiftLeft_eq] at this
  exact this.symm
theorem sideC {par : Nat} (hpar : par < 2) (hn : M 1 0 = nI n) (hn8 : n ≤ 8) {l s : List Nat} (hl : ∀ p, p ∈ l → p < n) {p : Nat} (hp : p < n) (hs : enc s < 2 ^ 28) (hs8 : ∀ c, c ∈ s → c < 8) :
    f_X2_sideWith M (nI (enc s)) (crI par p) (nI p) (nI (mask l)) = some (encO (sdW n par l p s)) := by
  have hm : mask l < 2 ^ 31 := Nat.lt_of_lt_of_le (mask_lt hl) (Nat.pow_le_pow_right (by decide) (by omega))
  have h28 : ∀ c q, c < 8 → q < 32 → f_X2_sideWith_28 M (nI (enc s)) (nI c) (nI (mask l)) (nI q) = some (encO (if l.contains q = true then popS s c else some (c :: s))) := by
    intro c q hc hq
    unfold f_X2_sideWith_28 f_X2_sideWith_65
    rw [ifi (bit0 hm hq), mask_bit, nI_1]
    by_cases e : l.contains q = true
    · rw [if_neg (by rw [e]; decide), if_pos e, pk_andN (m := 15) (by omega) 4 (by decide), ifi (nI_eq (by omega) (by omega)), pk_ushrN (by omega) 4 4 (by decide)]
      cases s with
      | nil => rw [if_neg (by show ¬ (0 % 2 ^ 4 = c + 1); omega)]; rfl
      | cons d t =>
        have := hs8 d List.mem_cons_self
        rw [show enc (d :: t) % 2 ^ 4 = d + 1 by rw [show enc (d :: t) = enc t * 16 + (d + 1) from rfl]; omega, show enc (d :: t) / 2 ^ 4 = enc t by rw [show enc (d :: t) = enc t * 16 + (d + 1) from rfl]; omega]
        by_cases e2 : d = c
        · rw [if_pos (by omega)]; unfold popS; simp only [e2, if_true]; rfl
        · rw [if_neg (by omega)]; unfold popS; simp only [e2, if_false]; rfl
    · rw [if_pos (Bool.eq_false_iff.mpr e), if_neg e, pk_shlN (4 &&& 31) 4 (by decide) (by omega), orI, or16 (by omega)]
      rfl
  unfold f_X2_sideWith f_X2_sideWith_14 sdW crs crI
  rw [hn, show nI n - 1 = nI (n - 1) from pk_sub (b := 1) (by omega)]
  by_cases e1 : p % 2 = par
  · simp only [e1, if_true]
    rw [if_neg (nI_pos (by omega)), ifi (nI_ltI (by omega) (by omega))]
    by_cases e2 : p + 1 < n
    · rw [if_pos (show p < n - 1 by omega), nI_1, h28 p (p + 1) (by omega) (by omega)]
      simp only [e2, if_true]
    · rw [if_neg (show ¬ p < n - 1 by omega)]
      simp only [e2, if_false]; rfl
  · simp only [e1, if_false]
    by_cases e0 : 0 < p
    · rw [show nI p - 1 = nI (p - 1) from pk_sub (b := 1) (by omega), if_neg (nI_pos (by omega)), ifi (nI_ltI (by omega) (by omega)), if_pos (show p - 1 < n - 1 by omega), if_neg (nI_eq' (by omega) (by omega) (by omega)), h28 (p - 1) (p - 1) (by omega) (by omega)]
      simp only [e0, if_true, if_neg (show ¬ p = p - 1 by omega)]
    · obtain rfl : p = 0 := by omega
      rw [if_pos (by decide)]
      simp only [e0, if_false]; rfl
/-! one full row is taken -/
def PileAt (M : px_M) (row : List Nat) : Prop := (∀ j, j < row.length → M 2 j = nI (row.getD j 0)) ∧ ∀ j, j < row.length → M 3 (row.getD j 0) = nI j
theorem gd_in {row : List Nat} {i : Nat} (h : i < row.length) : row.getD i 0 = row[i] := by simp [List.getD_eq_getElem?_getD, h]
theorem nd_get {row : List Nat} (h : row.Nodup) {i j : Nat} (hi : i < row.length) (hj : j < row.length) (e : row.getD i 0 = row.getD j 0) : i = j := by
  rw [gd_in hi, gd_in hj] at e
  exact (List.getElem?_inj hi h).mp (by rw [List.getElem?_eq_getElem hi, List.getElem?_eq_getElem hj, e])
theorem takeT (hn : M 1 0 = nI n) (hn8 : n ≤ 8) {row : List Nat} (hr : row.length = n) (hd : row.Nodup) (hb : ∀ p, p ∈ row → p < n) (ht : ∀ j, j < n → M 4 j = nI (row.getD j 0)) {c : Nat} (hc : M 1 3 = nI c) (hc2 : c < 2 ^ 31) :
    ∃ M', f_X2_takeTrial M = some M' ∧ M' 1 3 = nI (c + 1) ∧ (∀ a j, a ≠ 2 → a ≠ 3 → ¬ (a = 1 ∧ j = 3) → M' a j = M a j) ∧ (c = 0 → PileAt M' row) ∧ (c ≠ 0 → ∀ j, M' 2 j = M 2 j ∧ M' 3 j = M 3 j) := by
  have h47 : ∀ M1 : px_M, M1 1 3 = nI c → f_X2_takeTrial_47 M1 = some (px_u M1 1 3 (nI (c + 1))) := by
    intro M1 h
    unfold f_X2_takeTrial_47
    rw [nm_u, nm_u, h, nI_1]
  have hg : ∀ j, j < n → row.getD j 0 < n := fun j hj => by
    rw [gd_in (by omega)]
    exact hb _ (List.getElem_mem _)
  unfold f_X2_takeTrial
  rw [hc, show (0 : Int32) = nI 0 from rfl, ifi (nI_eq hc2 (by decide))]
  by_cases e : c = 0
  · rw [if_pos e]
    have K := lpf_for (body := fun a : Int32 × px_M => f_X2_takeTrial_9 a.2 a.1) (fun i (M' : px_M) => (nI i, M')) (fun i M' => px_u (px_u M' 2 i (nI (row.getD i 0))) 3 (row.getD i 0) (nI i))
      (fun k M' => (∀ a j, a ≠ 2 → a ≠ 3 → M' a j = M a j) ∧ (∀ j, j < k → M' 2 j = nI (row.getD j 0) ∧ M' 3 (row.getD j 0) = nI j)) (fun M' => M') n
      (fun i M' hi hP => by
        obtain ⟨p1, p2⟩ := hP
        refine ⟨?_, fun a j q1 q2 => ?_, fun j hj => ?_⟩
        · show f_X2_takeTrial_9 M' (nI i) = _
          unfold f_X2_takeTrial_9
          have e4 : M' 4 i = nI (row.getD i 0) := by rw [p1 4 i (by decide) (by decide)]; exact ht i hi
          have e5 : (px_u M' 2 i (nI (row.getD i 0))) 4 i = nI (row.getD i 0) := by rw [pu_n (by omega)]; exact e4
          have := hg i hi
          simp only [p1 1 0 (by decide) (by decide), hn, if_neg (nI_ge hi (by omega : n < 2 ^ 31)), ok_t (ix_k (show i < 8 by omega) (by decide : 8 < 2 ^ 31)), nI_clamp (show i < 2 ^ 31 by omega), nm_u, e4, e5, ok_t (ix_k (show row.getD i 0 < 8 by omega) (by decide : 8 < 2 ^ 31)), nI_clamp (show row.getD i 0 < 2 ^ 31 by omega), nI_1]
        · rw [pu_n (by omega), pu_n (by omega)]; exact p1 a j q1 q2
        · by_cases e : j = i
          · subst e
            exact ⟨by rw [pu_n (by omega), px_u_in], px_u_in _ _ _ _⟩
          · have hne : row.getD j 0 ≠ row.getD i 0 := fun q => e (nd_get hd (by omega) (by omega) q)
            have := p2 j (by omega)
            exact ⟨by rw [pu_n (by omega), pu_n (by omega)]; exact this.1, by rw [pu_n (by omega), pu_n (by omega)]; exact this.2⟩)
      (fun M' hP => by
        show f_X2_takeTrial_9 M' (nI n) = _
        unfold f_X2_takeTrial_9
        rw [hP.1 1 0 (by decide) (by decide), hn, if_pos (Int32.le_refl _)]) n 0 M (by omega) ⟨fun _ _ _ _ => rfl, fun j hj => absurd hj (by omega)⟩
    obtain ⟨k1, k2, k3⟩ := K
    refine ⟨_, by rw [show lpf (fun a : Int32 × px_M => f_X2_takeTrial_9 a.2 a.1) (nI 0, M) = _ from k1, bd1_e, h47 _ (by rw [k2 1 3 (by decide) (by decide)]; exact hc)], px_u_in _ _ _ _, fun a j q1 q2 q3 => ?_, fun _ => ⟨fun j hj => ?_, fun j hj => ?_⟩, fun q => absurd e q⟩
    · rw [pu_n (by omega)]; exact k2 a j q1 q2
    · rw [pu_n (by omega)]; exact (k3 j (by omega)).1
    · rw [pu_n (by omega)]; exact (k3 j (by omega)).2
  · rw [if_neg e]
    exact ⟨_, h47 M hc, px_u_in _ _ _ _, fun a j q1 q2 q3 => pu_n (by omega), fun q => absurd q e, fun _ j => ⟨pu_n (by omega), pu_n (by omega)⟩⟩
/-! the search -/
/-- what has become of the memory when the rows L were found, c before them -/
def PS (M : px_M) (k c : Nat) (L : List (List Nat)) (M' : px_M) : Prop :=
  M' 1 3 = nI (c + L.length) ∧ (∀ a j, a ≠ 2 → a ≠ 3 → a ≠ 4 → ¬ (a = 1 ∧ j = 3) → M' a j = M a j) ∧ (∀ j, j < k → M' 4 j = M 4 j) ∧
  (c = 0 → ∀ row t, L = row :: t → PileAt M' row) ∧ ((c ≠ 0 ∨ L = []) → ∀ j, M' 2 j = M 2 j ∧ M' 3 j = M 3 j)
theorem PS.tr {M M1 M2 : px_M} {k c : Nat} {L L2 : List (List Nat)} (h : PS M k c L M1) (h2 : PS M1 k (c + L.length) L2 M2) : PS M k c (L ++ L2) M2 := by
  obtain ⟨a1, a2, a3, a4, a5⟩ := h
  obtain ⟨b1, b2, b3, b4, b5⟩ := h2
  refine ⟨by rw [b1, List.length_append]; congr 1; omega, fun a j q1 q2 q3 q4 => (b2 a j q1 q2 q3 q4).trans (a2 a j q1 q2 q3 q4), fun j hj => (b3 j hj).trans (a3 j hj), fun hc row t e => ?_, fun hq j => ?_⟩
  · cases L with
    | nil =>
      exact b4 (by simp [hc]) row t e
    | cons r t' =>
      cases e
      have h4 := a4 hc _ _ rfl
      have h5 := b5 (Or.inl (by simp))
      exact ⟨fun j hj => by rw [(h5 j).1]; exact h4.1 j hj, fun j hj => by rw [(h5 _).2]; exact h4.2 j hj⟩
  · rcases hq with q | q
    · have x := a5 (Or.inl q) j
      have y := b5 (Or.inl (by omega)) j
      exact ⟨y.1.trans x.1, y.2.trans x.2⟩
    · have e := List.append_eq_nil_iff.mp q
      have x := a5 (Or.inr e.1) j
      have y := b5 (Or.inr e.2) j
      exact ⟨y.1.trans x.1, y.2.trans x.2⟩
theorem compC_len : ∀ (m : Nat) (l se so : List Nat), (compC n u m l se so).length ≤ n ^ m
  | 0, l, se, so => by unfold compC; simp
  | m + 1, l, se, so => by
    have hk : ∀ (f : Nat → List (List Nat)) (B : Nat), (∀ p, (f p).length ≤ B) → ∀ k, ((List.range k).flatMap f).length ≤ k * B := by
      intro f B hf k
      induction k with
      | zero => simp
      | succ k ih =>
        rw [List.range_succ, List.flatMap_append, List.length_append, Nat.succ_mul]
        have := hf k
        simp only [List.flatMap_cons, List.flatMap_nil, List.append_nil]
        omega
    unfold compC
    rw [Nat.pow_succ, Nat.mul_comm]
    refine hk _ _ (fun p => ?_) n
    split
    · split
      · exact compC_len m _ _ _
      · simp
    · simp
set_option maxHeartbeats 1000000 in
theorem pileF (hn8 : n ≤ 8) (hn1 : 1 ≤ n) (hu2 : u < 2 ^ 31) : ∀ (m fuel : Nat) (l se so : List Nat) (M : px_M) (c : Nat), m < fuel → l.length + m = n → l.Nodup → (∀ p, p ∈ l → p < n) → SI n 0 l se → SI n 1 l so → M 1 0 = nI n → M 1 1 = nI u → M 1 3 = nI c → c + n ^ m < 2 ^ 31 →
    (∀ j, j < l.length → M 4 j = nI (l.getD j 0)) → ∃ M', k_X2_pileFrom fuel M (nI l.length) (nI (mask l)) (nI (enc se)) (nI (enc so)) = some M' ∧ PS M l.length c (compC n u m l se so) M'
  | m, 0, l, se, so, M, c, hf => absurd hf (by omega)
  | 0, fuel + 1, l, se, so, M, c, hf => by
    intro hl hd hb h0 h1 e0 e1 e3 hc ht
    rw [Nat.add_zero] at hl
    obtain ⟨M', t1, t2, t3, t4, t5⟩ := takeT e0 hn8 hl hd hb (fun j hj => ht j (by omega)) e3 (by simp at hc; omega)
    refine ⟨M', ?_, ?_, fun a j q1 q2 q3 q4 => t3 a j q1 q2 q4, fun j hj => t3 4 j (by decide) (by decide) (by omega), fun hc row t e => ?_, fun hq => ?_⟩
    · show o_X2_pileFrom (k_X2_pileFrom fuel) M (nI l.length) _ _ _ = _
      unfold o_X2_pileFrom
      rw [e0, hl, if_neg (Int32.lt_irrefl), t1]; rfl
    · unfold compC; exact t2
    · unfold compC at e
      cases e
      exact t4 hc
    · rcases hq with q | q
      · exact t5 q
      · unfold compC at q; cases q
  | m + 1, fuel + 1, l, se, so, M, c, hf => by
    intro hl hd hb h0 h1 e0 e1 e3 hc ht
    have hpw : n ^ (m + 1) = n * n ^ m := by rw [Nat.pow_succ, Nat.mul_comm]
    obtain ⟨g, hg⟩ : ∃ g : Nat → List (List Nat), g = fun p => if okPt n u l p = true then (match sdW n 0 l p se, sdW n 1 l p so with | some a, some b => compC n u m (l ++ [p]) a b | _, _ => []) else [] := ⟨_, rfl⟩
    have hgl : ∀ i, ((List.range i).flatMap g).length ≤ i * n ^ m := by
      intro i
      induction i with
      | zero => simp
      | succ k ih =>
        rw [List.range_succ, List.flatMap_append, List.length_append, Nat.succ_mul]
        have : (g k).length ≤ n ^ m := by
          rw [hg]
          dsimp only
          split
          · split
            · exact compC_len m _ _ _
            · simp
          · simp
        simp only [List.flatMap_cons, List.flatMap_nil, List.append_nil]
        omega
    have hstep : ∀ i M1, i < n → PS M l.length c ((List.range i).flatMap g) M1 → ∃ M2, o_X2_pileFrom_16 (k_X2_pileFrom fuel) M1 (nI l.length) (nI (mask l)) (nI (enc se)) (nI (enc so)) (nI i) = some (.inl (nI (i + 1), M2)) ∧ PS M l.length c ((List.range (i + 1)).flatMap g) M2 := by
      intro i M1 hi hP
      have hP' := hP
      obtain ⟨p1, p2, p3, p4, p5⟩ := hP
      have f0 : M1 1 0 = nI n := by rw [p2 1 0 (by decide) (by decide) (by decide) (by decide)]; exact e0
      have f1 : M1 1 1 = nI u := by rw [p2 1 1 (by decide) (by decide) (by decide) (by decide)]; exact e1
      have hsame : g i = [] → PS M l.length c ((List.range (i + 1)).flatMap g) M1 := by
        intro q
        rw [List.range_succ, List.flatMap_append]
        simp only [List.flatMap_cons, List.flatMap_nil, List.append_nil, q]
        exact hP'
      unfold o_X2_pileFrom_16 o_X2_pileFrom_103
      rw [f0, if_neg (nI_ge hi (by omega)), mayC f0 f1 hu2 hn8 hb hi, bd1_e, ifi b2_0, nI_1]
      by_cases c1 : okPt n u l i = true
      · have hil : ¬ i ∈ l := (okPt_iff.mp c1).1
        rw [if_neg (by rw [c1]; decide), e_even (by omega), bd1_e, sideC (par := 0) (by decide) f0 hn8 hb hi (SI_enc hn8 h0) (fun c hc => by have := ((h0.1 c).mp hc).1.2; omega), bd1_e, e_odd (by omega), bd1_e, sideC (par := 1) (by decide) f0 hn8 hb hi (SI_enc hn8 h1) (fun c hc => by have := ((h1.1 c).mp hc).1.2; omega), bd1_e]
        have hne : ∀ s : List Nat, enc s < 2 ^ 28 → ¬ nI (enc s) = -1 := fun s hs q => by
          have := nI_pos' (n := enc s) (by omega)
          rw [q] at this; exact absurd this (by decide)
        cases c2 : sdW n 0 l i se with
        | none =>
          refine ⟨M1, by rw [if_pos (show encO none = -1 from rfl)], hsame ?_⟩
          rw [hg]; simp [c1, c2]
        | some a =>
          have s0 : SI n 0 (l ++ [i]) a := by
            rcases SI_step (by decide) h0 hi hil with ⟨t, e, e2⟩ | ⟨e, -⟩
            · rw [c2] at e; cases e; exact e2
            · rw [c2] at e; cases e
          rw [if_neg (show ¬ encO (some a) = -1 from hne a (SI_enc hn8 s0))]
          cases c3 : sdW n 1 l i so with
          | none =>
            refine ⟨M1, by rw [if_pos (show encO none = -1 from rfl)], hsame ?_⟩
            rw [hg]; simp [c1, c2, c3]
          | some b =>
            have s1 : SI n 1 (l ++ [i]) b := by
              rcases SI_step (by decide) h1 hi hil with ⟨t, e, e2⟩ | ⟨e, -⟩
              · rw [c3] at e; cases e; exact e2
              · rw [c3] at e; cases e
            rw [if_neg (show ¬ encO (some b) = -1 from hne b (SI_enc hn8 s1)), ok_t (ix_k (show l.length < 8 by omega) (by decide)), nI_clamp (by omega), nm_u, shl1 i (by omega), orI, ← mask_app]
            have hlen : (l ++ [i]).length = l.length + 1 := by rw [List.length_append, List.length_singleton]
            have hll := hgl i
            have hb1 : i * n ^ m + n ^ m ≤ n * n ^ m := by rw [← Nat.succ_mul]; exact Nat.mul_le_mul_right _ hi
            have hc' : c + ((List.range i).flatMap g).length + n ^ m < 2 ^ 31 := by omega
            obtain ⟨M2, r1, r2⟩ := pileF hn8 hn1 hu2 m fuel (l ++ [i]) a b (px_u M1 4 l.length (nI i)) (c + ((List.range i).flatMap g).length) (by omega) (by rw [hlen]; omega)
              (List.nodup_append.mpr ⟨hd, by simp, fun x hx y hy => by rw [List.mem_singleton.mp hy]; exact fun z => hil (z ▸ hx)⟩)
              (fun x hx => by
                rcases List.mem_append.mp hx with x2 | x2
                · exact hb x x2
                · rw [List.mem_singleton.mp x2]; exact hi) s0 s1 f0 f1 p1 hc'
              (fun j hj => by
                rw [hlen] at hj
                by_cases e : j = l.length
                · subst e
                  rw [px_u_in]
                  congr 1
                  simp [List.getD_eq_getElem?_getD]
                · rw [pu_n (by omega), p3 j (by omega), ht j (by omega)]
                  congr 1
                  simp only [List.getD_eq_getElem?_getD]
                  rw [List.getElem?_append_left (by omega)])
            rw [hlen] at r1 r2
            rw [nI_1, show k_X2_pileFrom fuel (px_u M1 4 l.length (nI i)) (nI (l.length + 1)) (nI (mask (l ++ [i]))) (encO (some a)) (encO (some b)) = _ from r1, bd1_e]
            refine ⟨M2, rfl, ?_⟩
            have hgi : g i = compC n u m (l ++ [i]) a b := by rw [hg]; simp [c1, c2, c3]
            rw [List.range_succ, List.flatMap_append]
            simp only [List.flatMap_cons, List.flatMap_nil, List.append_nil, hgi]
            refine hP'.tr ?_
            obtain ⟨y1, y2, y3, y4, y5⟩ := r2
            exact ⟨y1, fun a j q1 q2 q3 q4 => by rw [y2 a j q1 q2 q3 q4, pu_n (by omega)], fun j hj => by rw [y3 j (by omega), pu_n (by omega)], y4, fun q j => by have := y5 q j; rw [pu_n (by omega), pu_n (by omega)] at this; exact this⟩
      · refine ⟨M1, by rw [if_pos (Bool.eq_false_iff.mpr c1)], hsame ?_⟩
        rw [hg]; simp [c1]
    have hloop : ∀ (k i : Nat) (M1 : px_M), i + k = n → PS M l.length c ((List.range i).flatMap g) M1 → ∃ M2, lpf (fun a : Int32 × px_M => o_X2_pileFrom_16 (k_X2_pileFrom fuel) a.2 (nI l.length) (nI (mask l)) (nI (enc se)) (nI (enc so)) a.1) (nI i, M1) = some M2 ∧ PS M l.length c ((List.range n).flatMap g) M2 := by
      intro k
      induction k with
      | zero =>
        intro i M1 hi hP
        obtain rfl : i = n := by omega
        refine ⟨M1, lpf_end ?_, hP⟩
        show o_X2_pileFrom_16 (k_X2_pileFrom fuel) M1 (nI l.length) _ _ _ (nI i) = _
        unfold o_X2_pileFrom_16
        rw [hP.2.1 1 0 (by decide) (by decide) (by decide) (by decide), e0, if_pos (Int32.le_refl _)]
      | succ k ih =>
        intro i M1 hi hP
        obtain ⟨M2, r1, r2⟩ := hstep i M1 (by omega) hP
        rw [lpf_go (show (fun a : Int32 × px_M => o_X2_pileFrom_16 (k_X2_pileFrom fuel) a.2 (nI l.length) (nI (mask l)) (nI (enc se)) (nI (enc so)) a.1) (nI i, M1) = _ from r1)]
        exact ih (i + 1) M2 (by omega) r2
    obtain ⟨M2, r1, r2⟩ := hloop n 0 M (by omega) ⟨by rw [e3]; rfl, fun _ _ _ _ _ _ => rfl, fun _ _ => rfl, fun _ row t e => by simp at e, fun _ _ => ⟨rfl, rfl⟩⟩
    refine ⟨M2, ?_, by unfold compC; rw [hg] at r2; exact r2⟩
    show o_X2_pileFrom (k_X2_pileFrom fuel) M (nI l.length) _ _ _ = _
    unfold o_X2_pileFrom
    rw [e0, if_pos (nI_lt (by omega) (by omega)), show ((0, M) : Int32 × px_M) = (nI 0, M) from rfl, r1]
    rfl
end FOLD
