/-! strips: the reference's search -/
section FOLDR
variable {M : px_M} {n u : Nat}
noncomputable def btB (P : Nat → Nat) (i x : Nat) : Bool := @decide (btw P i x) (Classical.propDecidable _)
theorem btB_iff {P : Nat → Nat} {i x : Nat} : btB P i x = true ↔ btw P i x := @decide_eq_true_iff _ (Classical.propDecidable _)
theorem e_btw {P : Nat → Nat} (hP : ∀ p, p < n → M 75 p = nI (P p)) (hn8 : n ≤ 8) (hb : ∀ p, p < n → P p < 8) {i x : Nat} (hi : i + 1 < n) (hx : x < 8) : f_X12_between M (nI i) (nI x) = some (b2 (btB P i x)) := by
  have a1 := hb i (by omega)
  have a2 := hb (i + 1) hi
  unfold f_X12_between f_X12_between_57 f_X12_between_38 f_X12_between_58
  simp only [ok_t (ix_k (show i < 8 by omega) (by decide : 8 < 2 ^ 31)), ok_t (ix_k (show i + 1 < 8 by omega) (by decide : 8 < 2 ^ 31)), nI_clamp (show i < 2 ^ 31 by omega), nI_clamp (show i + 1 < 2 ^ 31 by omega), nm_u, nI_1, hP i (by omega), hP (i + 1) hi, ok_t zb0, ok_t zb1]
  have key : ∀ c : Bool, (c = true ↔ btw P i x) → btB P i x = c := fun c h => by
    cases c with
    | true => exact btB_iff.mpr (h.mp rfl)
    | false => exact Bool.eq_false_iff.mpr fun q => Bool.noConfusion (h.mpr (btB_iff.mp q))
  unfold btw at key
  by_cases c1 : P (i + 1) ≤ P i
  · rw [if_pos (nI_le c1 (by omega))]
    by_cases c2 : x ≤ P (i + 1)
    · rw [if_pos (nI_le c2 (by omega)), key false (by simp; omega)]; rfl
    · rw [if_neg (nI_ge (by omega) (by omega))]
      by_cases c3 : P i ≤ x
      · rw [if_pos (nI_le c3 (by omega)), key false (by simp; omega)]; rfl
      · rw [if_neg (nI_ge (by omega) (by omega)), key true (by simp; omega)]; rfl
  · rw [if_neg (nI_ge (by omega) (by omega))]
    by_cases c2 : x ≤ P i
    · rw [if_pos (nI_le c2 (by omega)), key false (by simp; omega)]; rfl
    · rw [if_neg (nI_ge (by omega) (by omega))]
      by_cases c3 : P (i + 1) ≤ x
      · rw [if_pos (nI_le c3 (by omega)), key false (by simp; omega)]; rfl
      · rw [if_neg (nI_ge (by omega) (by omega)), key true (by simp; omega)]; rfl
/-- layerOf of a row -/
theorem m_lay (hn : M 73 1 = nI n) (hn8 : n ≤ 8) {row : List Nat} (hF : Full n row) (ht : ∀ j, j < n → M 76 j = nI (row.getD j 0)) :
    ∃ M', lpf (fun a : Int32 × px_M => f_X12_stands_2 a.2 a.1) (0, M) = some M' ∧ (∀ a j, a ≠ 75 → M' a j = M a j) ∧ ∀ p, p < n → M' 75 p = nI (row.idxOf p) := by
  obtain ⟨f1, f2, f3, f4⟩ := hF
  have hg : ∀ j, j < n → row.getD j 0 < n := fun j hj => by
    rw [gd_in (by omega)]
    exact f4 _ (List.getElem_mem _)
  have K := lpf_for (body := fun a : Int32 × px_M => f_X12_stands_2 a.2 a.1) (fun i (M' : px_M) => (nI i, M')) (fun i M' => px_u M' 75 (row.getD i 0) (nI i))
    (fun k M' => (∀ a j, a ≠ 75 → M' a j = M a j) ∧ (∀ j, j < k → M' 75 (row.getD j 0) = nI j)) (fun M' => M') n
    (fun i M' hi hP => by
      obtain ⟨p1, p2⟩ := hP
      have := hg i hi
      refine ⟨?_, fun a j q1 => ?_, fun j hj => ?_⟩
      · show f_X12_stands_2 M' (nI i) = _
        unfold f_X12_stands_2
        have e4 : M' 76 i = nI (row.getD i 0) := by rw [p1 76 i (by decide)]; exact ht i hi
        simp only [p1 73 1 (by decide), hn, if_neg (nI_ge hi (by omega : n < 2 ^ 31)), ok_t (ix_k (show i < 8 by omega) (by decide : 8 < 2 ^ 31)), nI_clamp (show i < 2 ^ 31 by omega), nm_u, e4, ok_t (ix_k (show row.getD i 0 < 8 by omega) (by decide : 8 < 2 ^ 31)), nI_clamp (show row.getD i 0 < 2 ^ 31 by omega), nI_1]
      · rw [pu_n (by omega)]; exact p1 a j q1
      · by_cases e : j = i
        · subst e; exact px_u_in _ _ _ _
        · have hne : row.getD j 0 ≠ row.getD i 0 := fun q => e (nd_get f1 (by omega) (by omega) q)
          rw [pu_n (by omega)]; exact p2 j (by omega))
    (fun M' hP => by
      show f_X12_stands_2 M' (nI n) = _
      unfold f_X12_stands_2
      rw [hP.1 73 1 (by decide), hn, if_pos (Int32.le_refl _)]) n 0 M (by omega) ⟨fun _ _ _ => rfl, fun j hj => absurd hj (by omega)⟩
  refine ⟨_, K.1, K.2.1, fun p hp => ?_⟩
  have h1 := ix_lt (f3 p hp)
  have h2 := K.2.2 (row.idxOf p) (by omega)
  rw [gd_in h1, List.getElem_idxOf h1] at h2
  exact h2
theorem m_stands (hn : M 73 1 = nI n) (hu : M 73 2 = nI u) (hu2 : u < 2 ^ 31) (hn8 : n ≤ 8) (hn1 : 1 ≤ n) {row : List Nat} (hF : Full n row) (ht : ∀ j, j < n → M 76 j = nI (row.getD j 0)) :
    ∃ M', f_X12_stands M = some (b2 (stB n u row), M') ∧ ∀ a j, a ≠ 75 → M' a j = M a j := by
  obtain ⟨M1, l1, l2, l3⟩ := m_lay hn hn8 hF ht
  have hF' := hF
  obtain ⟨f1, f2, f3, f4⟩ := hF
  obtain ⟨P, hPd⟩ : ∃ P, P = fun p => row.idxOf p := ⟨_, rfl⟩
  have hP : ∀ p, p < n → M1 75 p = nI (P p) := fun p hp => by rw [l3 p hp, hPd]
  have hb : ∀ p, p < n → P p < 8 := fun p hp => by rw [hPd]; have := ix_lt (f3 p hp); dsimp only; omega
  have e1 : M1 73 1 = nI n := by rw [l2 73 1 (by decide)]; exact hn
  have e2 : M1 73 2 = nI u := by rw [l2 73 2 (by decide)]; exact hu
  -- one crease against those behind it
  have hin : ∀ i, i + 1 < n → (lpf (fun a : Int32 => f_X12_stands_107 M1 (nI i) a) (nI (i + 2)) = some (.inr ()) ∧ ∀ j, i < j → j % 2 = i % 2 → j + 1 < n → btB P i (P j) = btB P i (P (j + 1))) ∨ (lpf (fun a : Int32 => f_X12_stands_107 M1 (nI i) a) (nI (i + 2)) = some (.inl ()) ∧ ∃ j, i < j ∧ j % 2 = i % 2 ∧ j + 1 < n ∧ ¬ btB P i (P j) = btB P i (P (j + 1))) := by
    intro i hi
    have K := lpf_find (body := fun a : Int32 => f_X12_stands_107 M1 (nI i) a) (β := Unit ⊕ Unit) (fun k => nI (i + 2 + 2 * k)) ((n - i - 2) / 2) (fun k => ¬ btB P i (P (i + 2 + 2 * k)) = btB P i (P (i + 2 + 2 * k + 1))) (fun _ => .inl ()) (.inr ())
      (fun k hk hc => by
        show f_X12_stands_107 M1 (nI i) (nI (i + 2 + 2 * k)) = _
        unfold f_X12_stands_107
        rw [e1, nI_1, if_neg (nI_ge (by omega) (by omega)), ok_t (ix_k (show i + 2 + 2 * k < 8 by omega) (by decide)), nI_clamp (by omega), hP _ (by omega), e_btw hP hn8 hb hi (hb _ (by omega)), bd1_e, nm_u, ok_t (ix_k (show i + 2 + 2 * k + 1 < 8 by omega) (by decide)), nI_clamp (by omega), hP _ (by omega), e_btw hP hn8 hb hi (hb _ (by omega)), bd1_e, ifi b2_e, if_pos (Decidable.not_not.mp hc), show (2 : Int32) = nI 2 from rfl, nI_add, show i + 2 + 2 * k + 2 = i + 2 + 2 * (k + 1) by omega])
      (fun k hk hc => by
        show f_X12_stands_107 M1 (nI i) (nI (i + 2 + 2 * k)) = _
        unfold f_X12_stands_107
        rw [e1, nI_1, if_neg (nI_ge (by omega) (by omega)), ok_t (ix_k (show i + 2 + 2 * k < 8 by omega) (by decide)), nI_clamp (by omega), hP _ (by omega), e_btw hP hn8 hb hi (hb _ (by omega)), bd1_e, nm_u, ok_t (ix_k (show i + 2 + 2 * k + 1 < 8 by omega) (by decide)), nI_clamp (by omega), hP _ (by omega), e_btw hP hn8 hb hi (hb _ (by omega)), bd1_e, ifi b2_e, if_neg hc])
      (by
        show f_X12_stands_107 M1 (nI i) (nI (i + 2 + 2 * ((n - i - 2) / 2))) = _
        unfold f_X12_stands_107
        rw [e1, nI_1, if_pos (nI_le (by omega) (by omega))]) ((n - i - 2) / 2) 0 (by omega)
    rcases K with ⟨k1, k2⟩ | ⟨k, -, k2, k3, -, k5⟩
    · left
      refine ⟨k1, fun j q1 q2 q3 => ?_⟩
      have := k2 ((j - i - 2) / 2) (by omega) (by omega)
      rw [show i + 2 + 2 * ((j - i - 2) / 2) = j by omega] at this
      exact Decidable.not_not.mp this
    · right
      exact ⟨k5, i + 2 + 2 * k, by omega, by omega, by omega, k3⟩
  have hrs : ∀ i, i + 1 < n → ∀ z : Bool, f_X12_stands_96 M1 (nI i) (b2 (rsB u i)) (b2 z) = if z = rsB u i then bdS (lpf (fun a : Int32 => f_X12_stands_107 M1 (nI i) a) (nI (i + 2))) (fun _ => some (.inr (.inr (.inl ())))) (fun _ => some (.inl (nI (i + 1)))) else some (.inr (.inl ())) := by
    intro i hi z
    unfold f_X12_stands_96
    rw [ifi b2_e, nm_u, show (2 : Int32) = nI 2 from rfl, nI_add, nI_1]
  have hbody : ∀ i, i + 1 < n → f_X12_stands_27 M1 (nI i) = if (decide (P i < P (i + 1))) = rsB u i then bdS (lpf (fun a : Int32 => f_X12_stands_107 M1 (nI i) a) (nI (i + 2))) (fun _ => some (.inr (.inr (.inl ())))) (fun _ => some (.inl (nI (i + 1)))) else some (.inr (.inl ())) := by
    intro i hi
    have h73 : f_X12_stands_27 M1 (nI i) = f_X12_stands_73 M1 (nI i) (b2 (rsB u i)) := by
      unfold f_X12_stands_27 f_X12_stands_54 f_X12_stands_65
      rw [e1, nI_1, if_neg (nI_ge (by omega) (by omega)), e2, ifi (bitI hu2 (show i < 32 by omega)), ifi (ev2 (show i < 2 ^ 31 by omega)), ifi (ev2 (show i < 2 ^ 31 by omega))]
      unfold rsB b2
      by_cases h1 : u.testBit i = true <;> by_cases h2 : i % 2 = 0 <;> simp [h1, h2]
    rw [h73, ← hrs i hi]
    unfold f_X12_stands_73
    have a1 := hb i (by omega)
    have a2 := hb (i + 1) hi
    rw [nm_u, nI_1, ok_t (ix_k (show i + 1 < 8 by omega) (by decide)), ok_t (ix_k (show i < 8 by omega) (by decide)), nI_clamp (by omega), nI_clamp (by omega), hP i (by omega), hP (i + 1) hi]
    by_cases c : P i < P (i + 1)
    · rw [if_neg (nI_ge c (by omega)), decide_eq_true c]; rfl
    · rw [if_pos (nI_le (by omega) (by omega)), decide_eq_false c]; rfl
  have K := lpf_find (body := fun a : Int32 => f_X12_stands_27 M1 a) (β := Unit ⊕ (Unit ⊕ Unit)) nI (n - 1) (fun i => ¬ ((decide (P i < P (i + 1)) = rsB u i) ∧ ∀ j, i < j → j % 2 = i % 2 → j + 1 < n → btB P i (P j) = btB P i (P (j + 1)))) (fun i => if decide (P i < P (i + 1)) = rsB u i then .inr (.inl ()) else .inl ()) (.inr (.inr ()))
    (fun i hi hc => by
      have hc' := Classical.not_not.mp hc
      show f_X12_stands_27 M1 (nI i) = _
      rw [hbody i (by omega), if_pos hc'.1]
      rcases hin i (by omega) with ⟨k1, -⟩ | ⟨-, j, q1, q2, q3, q4⟩
      · rw [k1]; rfl
      · exact absurd (hc'.2 j q1 q2 q3) q4)
    (fun i hi hc => by
      show f_X12_stands_27 M1 (nI i) = _
      rw [hbody i (by omega)]
      by_cases c : decide (P i < P (i + 1)) = rsB u i
      · rw [if_pos c, if_pos c]
        rcases hin i (by omega) with ⟨-, k2⟩ | ⟨k1, -⟩
        · exact absurd ⟨c, k2⟩ hc
        · rw [k1]; rfl
      · rw [if_neg c, if_neg c])
    (by
      show f_X12_stands_27 M1 (nI (n - 1)) = _
      unfold f_X12_stands_27
      rw [e1, nI_1, if_pos (nI_le (by omega) (by omega))]) (n - 1) 0 (by omega)
  have hst : stB n u row = true ↔ ∀ i, i < n - 1 → ((decide (P i < P (i + 1)) = rsB u i) ∧ ∀ j, i < j → j % 2 = i % 2 → j + 1 < n → btB P i (P j) = btB P i (P (j + 1))) := by
    rw [stB_iff, ← hPd]
    have hd : ∀ i, (decide (P i < P (i + 1)) = rsB u i) ↔ (P i < P (i + 1) ↔ rsB u i = true) := by
      intro i
      by_cases c : P i < P (i + 1)
      · rw [decide_eq_true c]; simp [c]
      · rw [decide_eq_false c]; simp [c]
    have hd2 : ∀ i a b, (btB P i a = btB P i b) ↔ (btw P i a ↔ btw P i b) := by
      intro i a b
      rw [← btB_iff, ← btB_iff]
      cases btB P i a <;> cases btB P i b <;> simp
    unfold St
    constructor
    · rintro ⟨s1, s2⟩ i hi
      exact ⟨(hd i).mpr (s1 i (by omega)), fun j q1 q2 q3 => (hd2 _ _ _).mpr (s2 i j q1 q2 q3)⟩
    · intro h
      exact ⟨fun i hi => (hd i).mp (h i (by omega)).1, fun i j q1 q2 q3 => (hd2 _ _ _).mp ((h i (by omega)).2 j q1 q2 q3)⟩
  refine ⟨M1, ?_, l2⟩
  unfold f_X12_stands
  rw [l1, bd1_e]
  rcases K with ⟨k1, k2⟩ | ⟨i, -, k2, k3, -, k5⟩
  · have : stB n u row = true := hst.mpr fun i hi => Classical.not_not.mp (k2 i (by omega) hi)
    rw [this, show lpf (fun a : Int32 => f_X12_stands_27 M1 a) 0 = _ from k1]
    rfl
  · have : stB n u row = false := Bool.eq_false_iff.mpr fun q => k3 (hst.mp q i k2)
    rw [this, show lpf (fun a : Int32 => f_X12_stands_27 M1 a) 0 = _ from k5]
    split <;> rfl
/-! going through all rows -/
def PSR (M : px_M) (k c : Nat) (L : List (List Nat)) (M' : px_M) : Prop :=
  M' 73 3 = nI (c + L.length) ∧ (∀ a j, a ≠ 74 → a ≠ 75 → a ≠ 76 → ¬ (a = 73 ∧ j = 3) → M' a j = M a j) ∧ (∀ j, j < k → M' 76 j = M 76 j) ∧
  (c = 0 → ∀ row t, L = row :: t → ∀ j, j < row.length → M' 74 j = nI (row.getD j 0)) ∧ ((c ≠ 0 ∨ L = []) → ∀ j, M' 74 j = M 74 j)
theorem PSR.tr {M M1 M2 : px_M} {k c : Nat} {L L2 : List (List Nat)} (h : PSR M k c L M1) (h2 : PSR M1 k (c + L.length) L2 M2) : PSR M k c (L ++ L2) M2 := by
  obtain ⟨a1, a2, a3, a4, a5⟩ := h
  obtain ⟨b1, b2, b3, b4, b5⟩ := h2
  refine ⟨by rw [b1, List.length_append]; congr 1; omega, fun a j q1 q2 q3 q4 => (b2 a j q1 q2 q3 q4).trans (a2 a j q1 q2 q3 q4), fun j hj => (b3 j hj).trans (a3 j hj), fun hc row t e => ?_, fun hq j => ?_⟩
  · cases L with
    | nil =>
      exact b4 (by simp [hc]) row t e
    | cons r t' =>
      cases e
      have h4 := a4 hc _ _ rfl
      have h5 := b5 (Or.inl (by simp))
      exact fun j hj => by rw [h5 j]; exact h4 j hj
  · rcases hq with q | q
    · exact (b5 (Or.inl (by omega)) j).trans (a5 (Or.inl q) j)
    · have e := List.append_eq_nil_iff.mp q
      exact (b5 (Or.inr e.2) j).trans (a5 (Or.inr e.1) j)
theorem compR_len : ∀ (m : Nat) (l : List Nat), (compR n m l).length ≤ n ^ m
  | 0, l => by unfold compR; simp
  | m + 1, l => by
    have hk : ∀ (f : Nat → List (List Nat)) (B : Nat), (∀ p, (f p).length ≤ B) → ∀ k, ((List.range k).flatMap f).length ≤ k * B := by
      intro f B hf k
      induction k with
      | zero => simp
      | succ k ih =>
        rw [List.range_succ, List.flatMap_append, List.length_append, Nat.succ_mul]
        have := hf k
        simp only [List.flatMap_cons, List.flatMap_nil, List.append_nil]
        omega
    unfold compR
    rw [Nat.pow_succ, Nat.mul_comm]
    refine hk _ _ (fun p => ?_) n
    split
    · simp
    · exact compR_len m _
set_option maxHeartbeats 1000000 in
theorem goTh (hn8 : n ≤ 8) (hn1 : 1 ≤ n) (hu2 : u < 2 ^ 31) : ∀ (m fuel : Nat) (l : List Nat) (M : px_M) (c : Nat), m < fuel → l.length + m = n → l.Nodup → (∀ p, p ∈ l → p < n) → M 73 1 = nI n → M 73 2 = nI u → M 73 3 = nI c → c + n ^ m < 2 ^ 31 →
    (∀ j, j < l.length → M 76 j = nI (l.getD j 0)) → ∃ M', k_X12_goThrough fuel M (nI l.length) (nI (mask l)) = some M' ∧ PSR M l.length c ((compR n m l).filter (stB n u)) M'
  | m, 0, l, M, c, hf => absurd hf (by omega)
  | 0, fuel + 1, l, M, c, hf => by
    intro hl hd hb e0 e1 e3 hc ht
    rw [Nat.add_zero] at hl
    have hF : Full n l := (compR_full (n := n) 0 l (by omega) hd hb l (by unfold compR; simp)).1
    obtain ⟨M1, s1, s2⟩ := m_stands e0 e1 hu2 hn8 hn1 hF (fun j hj => ht j (by omega))
    have h3 : M1 73 3 = nI c := by rw [s2 73 3 (by decide)]; exact e3
    have hcomp : (compR n 0 l).filter (stB n u) = if stB n u l = true then [l] else [] := by
      unfold compR
      by_cases q : stB n u l = true
      · rw [if_pos q, List.filter_cons_of_pos q]; rfl
      · rw [if_neg q, List.filter_cons_of_neg q]; rfl
    rw [hcomp]
    have hun : k_X12_goThrough (fuel + 1) M (nI l.length) (nI (mask l)) = o_X12_goThrough (k_X12_goThrough fuel) M (nI l.length) (nI (mask l)) := rfl
    rw [hun]
    unfold o_X12_goThrough
    rw [e0, hl, if_pos rfl, s1, bd1_e]
    by_cases q : stB n u l = true
    · rw [if_pos q, q, if_neg (show ¬ b2 true = 0 by decide)]
      have h55 : ∀ M2 : px_M, M2 73 3 = nI c → o_X12_goThrough_55 (k_X12_goThrough fuel) M2 = some (px_u M2 73 3 (nI (c + 1))) := by
        intro M2 h
        unfold o_X12_goThrough_55
        rw [nm_u, nm_u, h, nI_1]
      simp only [h3]
      by_cases ec : c = 0
      · rw [if_pos (by rw [ec]; rfl)]
        have K := lpf_for (body := fun a : Int32 × px_M => o_X12_goThrough_29 (k_X12_goThrough fuel) a.2 a.1) (fun i (M' : px_M) => (nI i, M')) (fun i M' => px_u M' 74 i (nI (l.getD i 0)))
          (fun k M' => (∀ a j, a ≠ 74 → M' a j = M1 a j) ∧ ∀ j, j < k → M' 74 j = nI (l.getD j 0)) (fun M' => M') n
          (fun i M' hi hP => by
            obtain ⟨p1, p2⟩ := hP
            refine ⟨?_, fun a j q1 => ?_, fun j hj => ?_⟩
            · show o_X12_goThrough_29 (k_X12_goThrough fuel) M' (nI i) = _
              unfold o_X12_goThrough_29
              have e4 : M' 76 i = nI (l.getD i 0) := by rw [p1 76 i (by decide), s2 76 i (by decide)]; exact ht i (by omega)
              simp only [p1 73 1 (by decide), s2 73 1 (by decide), e0, if_neg (nI_ge hi (by omega : n < 2 ^ 31)), ok_t (ix_k (show i < 8 by omega) (by decide : 8 < 2 ^ 31)), nI_clamp (show i < 2 ^ 31 by omega), nm_u, e4, nI_1]
            · rw [pu_n (by omega)]; exact p1 a j q1
            · by_cases e : j = i
              · subst e; exact px_u_in _ _ _ _
              · rw [pu_n (by omega)]; exact p2 j (by omega))
          (fun M' hP => by
            show o_X12_goThrough_29 (k_X12_goThrough fuel) M' (nI n) = _
            unfold o_X12_goThrough_29
            rw [hP.1 73 1 (by decide), s2 73 1 (by decide), e0, if_pos (Int32.le_refl _)]) n 0 M1 (by omega) ⟨fun _ _ _ => rfl, fun j hj => absurd hj (by omega)⟩
        obtain ⟨k1, k2, k3⟩ := K
        rw [show lpf (fun a : Int32 × px_M => o_X12_goThrough_29 (k_X12_goThrough fuel) a.2 a.1) (0, M1) = _ from k1, bd1_e, h55 _ (by rw [k2 73 3 (by decide)]; exact h3)]
        refine ⟨_, rfl, px_u_in _ _ _ _, fun a j q1 q2 q3 q4 => by rw [pu_n (by omega), k2 a j q1, s2 a j q2], fun j hj => by rw [pu_n (by omega), k2 76 j (by decide), s2 76 j (by decide)], fun _ row t e j hj => ?_, fun hq => ?_⟩
        · cases e
          rw [pu_n (by omega)]; exact k3 j (by omega)
        · rcases hq with x | x
          · exact absurd ec x
          · cases x
      · rw [if_neg (show ¬ nI c = 0 from nI_ne0 (by omega) (by simp at hc; omega)), h55 _ h3]
        refine ⟨_, rfl, px_u_in _ _ _ _, fun a j q1 q2 q3 q4 => by rw [pu_n (by omega), s2 a j q2], fun j hj => by rw [pu_n (by omega), s2 76 j (by decide)], fun x => absurd x ec, fun _ j => by rw [pu_n (by omega), s2 74 j (by decide)]⟩
    · rw [if_neg q, Bool.eq_false_iff.mpr q, if_pos (show b2 false = 0 from rfl)]
      exact ⟨M1, rfl, h3, fun a j q1 q2 q3 q4 => s2 a j q2, fun j hj => s2 76 j (by decide), fun _ row t e => (by cases e), fun _ j => s2 74 j (by decide)⟩
  | m + 1, fuel + 1, l, M, c, hf => by
    intro hl hd hb e0 e1 e3 hc ht
    have hpw : n ^ (m + 1) = n * n ^ m := by rw [Nat.pow_succ, Nat.mul_comm]
    have hm : mask l < 2 ^ 31 := Nat.lt_of_lt_of_le (mask_lt hb) (Nat.pow_le_pow_right (by decide) (by omega))
    obtain ⟨g, hg⟩ : ∃ g : Nat → List (List Nat), g = fun p => ((if l.contains p = true then [] else compR n m (l ++ [p])) : List (List Nat)).filter (stB n u) := ⟨_, rfl⟩
    have hcomp : (compR n (m + 1) l).filter (stB n u) = (List.range n).flatMap g := by
      unfold compR
      rw [List.filter_flatMap, hg]
    have hgl : ∀ i, ((List.range i).flatMap g).length ≤ i * n ^ m := by
      intro i
      induction i with
      | zero => simp
      | succ k ih =>
        rw [List.range_succ, List.flatMap_append, List.length_append, Nat.succ_mul]
        have : (g k).length ≤ n ^ m := by
          rw [hg]
          dsimp only
          refine Nat.le_trans (List.length_filter_le _ _) ?_
          split
          · simp
          · exact compR_len m _
        simp only [List.flatMap_cons, List.flatMap_nil, List.append_nil]
        omega
    have hstep : ∀ i M1, i < n → PSR M l.length c ((List.range i).flatMap g) M1 → ∃ M2, o_X12_goThrough_68 (k_X12_goThrough fuel) M1 (nI l.length) (nI (mask l)) (nI i) = some (.inl (nI (i + 1), M2)) ∧ PSR M l.length c ((List.range (i + 1)).flatMap g) M2 := by
      intro i M1 hi hP
      have hP' := hP
      obtain ⟨p1, p2, p3, p4, p5⟩ := hP
      have f0 : M1 73 1 = nI n := by rw [p2 73 1 (by decide) (by decide) (by decide) (by decide)]; exact e0
      have f1 : M1 73 2 = nI u := by rw [p2 73 2 (by decide) (by decide) (by decide) (by decide)]; exact e1
      unfold o_X12_goThrough_68 o_X12_goThrough_107
      rw [f0, if_neg (nI_ge hi (by omega)), ifi (bitI hm (show i < 32 by omega)), mask_bit, nI_1]
      by_cases c1 : l.contains i = true
      · refine ⟨M1, by rw [if_pos c1], ?_⟩
        have hgi : g i = [] := by rw [hg]; dsimp only; rw [if_pos c1]; rfl
        rw [List.range_succ, List.flatMap_append]
        simp only [List.flatMap_cons, List.flatMap_nil, List.append_nil, hgi]
        exact hP'
      · have hil : ¬ i ∈ l := fun q => c1 (List.contains_iff_mem.mpr q)
        rw [if_neg c1, ok_t (ix_k (show l.length < 8 by omega) (by decide)), nI_clamp (by omega), nm_u, shl1 i (by omega), orI, ← mask_app]
        have hlen : (l ++ [i]).length = l.length + 1 := by rw [List.length_append, List.length_singleton]
        have hll := hgl i
        have hb1 : i * n ^ m + n ^ m ≤ n * n ^ m := by rw [← Nat.succ_mul]; exact Nat.mul_le_mul_right _ hi
        have hc' : c + ((List.range i).flatMap g).length + n ^ m < 2 ^ 31 := by omega
        obtain ⟨M2, r1, r2⟩ := goTh hn8 hn1 hu2 m fuel (l ++ [i]) (px_u M1 76 l.length (nI i)) (c + ((List.range i).flatMap g).length) (by omega) (by rw [hlen]; omega)
          (List.nodup_append.mpr ⟨hd, by simp, fun x hx y hy => by rw [List.mem_singleton.mp hy]; exact fun z => hil (z ▸ hx)⟩)
          (fun x hx => by
            rcases List.mem_append.mp hx with x2 | x2
            · exact hb x x2
            · rw [List.mem_singleton.mp x2]; exact hi) f0 f1 p1 hc'
          (fun j hj => by
            rw [hlen] at hj
            by_cases e : j = l.length
            · subst e
              rw [px_u_in]
              congr 1
              simp [List.getD_eq_getElem?_getD]
            · rw [pu_n (by omega), p3 j (by omega), ht j (by omega)]
              congr 1
              simp only [List.getD_eq_getElem?_getD]
              rw [List.getElem?_append_left (by omega)])
        rw [hlen] at r1 r2
        rw [nI_1, r1, bd1_e]
        refine ⟨M2, rfl, ?_⟩
        have hgi : g i = (compR n m (l ++ [i])).filter (stB n u) := by rw [hg]; dsimp only; rw [if_neg c1]
        rw [List.range_succ, List.flatMap_append]
        simp only [List.flatMap_cons, List.flatMap_nil, List.append_nil, hgi]
        refine hP'.tr ?_
        obtain ⟨y1, y2, y3, y4, y5⟩ := r2
        exact ⟨y1, fun a j q1 q2 q3 q4 => by rw [y2 a j q1 q2 q3 q4, pu_n (by omega)], fun j hj => by rw [y3 j (by omega), pu_n (by omega)], y4, fun q j => by have := y5 q j; rw [pu_n (by omega)] at this; exact this⟩
    have hloop : ∀ (k i : Nat) (M1 : px_M), i + k = n → PSR M l.length c ((List.range i).flatMap g) M1 → ∃ M2, lpf (fun a : Int32 × px_M => o_X12_goThrough_68 (k_X12_goThrough fuel) a.2 (nI l.length) (nI (mask l)) a.1) (nI i, M1) = some M2 ∧ PSR M l.length c ((List.range n).flatMap g) M2 := by
      intro k
      induction k with
      | zero =>
        intro i M1 hi hP
        obtain rfl : i = n := by omega
        refine ⟨M1, lpf_end ?_, hP⟩
        show o_X12_goThrough_68 (k_X12_goThrough fuel) M1 (nI l.length) _ (nI i) = _
        unfold o_X12_goThrough_68
        rw [hP.2.1 73 1 (by decide) (by decide) (by decide) (by decide), e0, if_pos (Int32.le_refl _)]
      | succ k ih =>
        intro i M1 hi hP
        obtain ⟨M2, r1, r2⟩ := hstep i M1 (by omega) hP
        rw [lpf_go (show (fun a : Int32 × px_M => o_X12_goThrough_68 (k_X12_goThrough fuel) a.2 (nI l.length) (nI (mask l)) a.1) (nI i, M1) = _ from r1)]
        exact ih (i + 1) M2 (by omega) r2
    obtain ⟨M2, r1, r2⟩ := hloop n 0 M (by omega) ⟨by rw [e3]; rfl, fun _ _ _ _ _ _ => rfl, fun _ _ => rfl, fun _ row t e => by simp at e, fun _ _ => rfl⟩
    refine ⟨M2, ?_, by rw [hcomp]; exact r2⟩
    show o_X12_goThrough (k_X12_goThrough fuel) M (nI l.length) _ = _
    unfold o_X12_goThrough
    rw [e0, if_neg (nI_eq' (by omega) (by omega) (by omega)), show ((0, M) : Int32 × px_M) = (nI 0, M) from rfl, r1]
    rfl
end FOLDR
