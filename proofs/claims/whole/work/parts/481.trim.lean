/-! trim -/
def Sg (h : Nat → Int32) (n : Nat) : Int32 := fld (fun i s => s + h i) 0 n 0
theorem Sg_succ (h : Nat → Int32) (n : Nat) : Sg h (n + 1) = Sg h n + h n := by
  unfold Sg
  rw [fld_last, Nat.zero_add]
theorem Sg_from (h : Nat → Int32) (a : Int32) : ∀ n, fld (fun i s => s + h i) 0 n a = a + Sg h n
  | 0 => by unfold Sg fld; rw [Int32.add_zero]
  | n + 1 => by rw [fld_last, Sg_from h a n, Sg_succ, Nat.zero_add, Int32.add_assoc]
theorem Sg_congr {g h : Nat → Int32} : ∀ n, (∀ i, i < n → g i = h i) → Sg g n = Sg h n := fun n hh => fld_congr _ _ _ fun j _ hj s => by rw [hh j (by omega)]
theorem Sg_upd {g h : Nat → Int32} {a : Nat} : ∀ n, a < n → (∀ i, i < n → i ≠ a → g i = h i) → Sg g n = Sg h n + (g a - h a)
  | 0, ha, _ => absurd ha (by omega)
  | n + 1, ha, hh => by
    rw [Sg_succ, Sg_succ]
    by_cases e : a = n
    · subst e
      rw [Sg_congr (g := g) (h := h) a fun i hi => hh i (by omega) (by omega)]
      grind
    · rw [Sg_upd n (by omega) fun i hi hne => hh i (by omega) hne, hh n (by omega) (fun x => e x.symm)]
      grind
/-- the bend of a panel: its flap's, or none -/
def bqF (fp : Nat → Nat) (b : Nat → Int32) : Nat → Nat → Int32
  | 0, _ => 0
  | k + 1, i => if fp k = i then b k else bqF fp b k i
def isF (fp : Nat → Nat) : Nat → Nat → Bool
  | 0, _ => false
  | k + 1, i => decide (fp k = i) || isF fp k i
theorem bqF_no {fp : Nat → Nat} {b : Nat → Int32} {i : Nat} : ∀ k, (∀ f, f < k → fp f ≠ i) → bqF fp b k i = 0 ∧ isF fp k i = false
  | 0, _ => ⟨rfl, rfl⟩
  | k + 1, h => by
    have h1 := h k (by omega)
    have h2 := bqF_no (b := b) k fun f hf => h f (by omega)
    unfold bqF isF
    rw [if_neg h1, decide_eq_false h1, h2.2]
    exact ⟨h2.1, rfl⟩
theorem bqF_at {fp : Nat → Nat} {b : Nat → Int32} : ∀ k f, f < k → (∀ g, g < k → fp g = fp f → g = f) → bqF fp b k (fp f) = b f ∧ isF fp k (fp f) = true
  | 0, f, hf, _ => absurd hf (by omega)
  | k + 1, f, hf, h => by
    unfold bqF isF
    by_cases e : f = k
    · subst e
      rw [if_pos rfl, decide_eq_true rfl]
      exact ⟨rfl, rfl⟩
    · have h1 : fp k ≠ fp f := fun q => e (h k (by omega) q).symm
      have h2 := bqF_at (b := b) k f (by omega) fun g hg q => h g (by omega) q
      rw [if_neg h1, decide_eq_false h1, h2.2]
      exact ⟨h2.1, rfl⟩
theorem sg_split (h : Nat → Int32 → Int32) {fp : Nat → Nat} (b : Nat → Int32) {np : Nat} : ∀ k, (∀ f, f < k → fp f < np) → (∀ f g, f < k → g < k → fp f = fp g → f = g) → Sg (fun i => h i (bqF fp b k i)) np = Sg (fun i => if isF fp k i = true then 0 else h i 0) np + Sg (fun f => h (fp f) (b f)) k
  | 0, _, _ => by
    show Sg (fun i => h i 0) np = Sg (fun i => h i 0) np + 0
    rw [Int32.add_zero]
  | k + 1, hb, hi => by
    have ih := sg_split h b k (fun f hf => hb f (by omega)) (fun f g hf hg q => hi f g (by omega) (by omega) q)
    have hno := bqF_no (b := b) (i := fp k) k fun f hf q => by have := hi f k (by omega) (by omega) q; omega
    rw [Sg_succ, Sg_upd (g := fun i => h i (bqF fp b (k + 1) i)) (h := fun i => h i (bqF fp b k i)) (a := fp k) np (hb k (by omega)) (fun i _ hne => by
        show h i (if fp k = i then b k else bqF fp b k i) = h i (bqF fp b k i)
        rw [if_neg (fun q => hne q.symm)]),
      Sg_upd (g := fun i => if isF fp (k + 1) i = true then 0 else h i 0) (h := fun i => if isF fp k i = true then 0 else h i 0) (a := fp k) np (hb k (by omega)) (fun i _ hne => by
        show (if isF fp (k + 1) i = true then 0 else h i 0) = (if isF fp k i = true then 0 else h i 0)
        have : isF fp (k + 1) i = isF fp k i := by
          show (decide (fp k = i) || isF fp k i) = _
          rw [decide_eq_false (fun q => hne q.symm)]; rfl
        rw [this])]
    have e1 : bqF fp b (k + 1) (fp k) = b k := if_pos rfl
    have e2 : isF fp (k + 1) (fp k) = true := by
      show (decide (fp k = fp k) || isF fp k (fp k)) = true
      rw [decide_eq_true rfl]; rfl
    simp only [e1, e2, hno.1, hno.2, ih, if_true]
    simp only [Bool.false_eq_true, if_false]
    grind
def hB (M : px_M) (p ax : Int32) (i : Nat) (b : Int32) : Int32 := (if M 86 i = 0 then vpr (M 81 i) (cl8 (p + M 84 i + b)) (M 82 i) (M 83 i) else 0) * (if ax = 0 then M 79 i - M 73 11 else M 80 i - M 73 12)
section TRIM
variable {sh : px_Sh} {M M' : px_M} {L : px_L} {R : px_R} {np nf : Nat} {pa fp : Nat → Nat}
/-- what the sail is, where nothing but what nobody reads has changed -/
theorem SailI.scr (h : SailI sh M R np nf pa fp) (hM : ∀ c j, md sh c j = 2 → ¬ (c = 6 ∧ (j = 11 ∨ j = 12)) → M' c j = M c j) : SailI sh M' R np nf pa fp := by
  obtain ⟨h1, h2, h3, h4, h5, h6, h7, h8, h9⟩ := h
  have hm : ∀ i, i < np → ∀ j, md sh (pa i) j = 2 := fun i hi j => md_5 (h3 i hi).1.2.2 (h3 i hi).1.2.1 j
  have hg : ∀ i, i < np → 220 ≤ pa i := fun i hi => (h3 i hi).1.2.2
  refine ⟨h1, ?_, fun i hi => ?_, h4, fun f hf => ?_, h6, fun i hi q => ?_, fun i hi => ?_, fun f hf => ?_⟩
  · rw [hM 6 1 rfl (by omega), hM 73 9 rfl (by omega), hM 6 3 rfl (by omega), hM 73 10 rfl (by omega), hM 6 4 rfl (by omega), hM 6 5 rfl (by omega), hM 73 11 rfl (by omega), hM 73 12 rfl (by omega)]
    exact h2
  · have hi2 := hg i hi
    unfold PanI
    rw [hM 79 i rfl (by omega), hM 80 i rfl (by omega), hM 81 i rfl (by omega), hM 82 i rfl (by omega), hM 83 i rfl (by omega), hM 84 i rfl (by omega), hM 85 i rfl (by omega), hM 86 i rfl (by omega), hM _ 0 (hm i hi 0) (by omega), hM _ 1 (hm i hi 1) (by omega), hM _ 2 (hm i hi 2) (by omega), hM _ 3 (hm i hi 3) (by omega), hM _ 4 (hm i hi 4) (by omega), hM _ 5 (hm i hi 5) (by omega), hM _ 6 (hm i hi 6) (by omega), hM _ 7 (hm i hi 7) (by omega)]
    exact h3 i hi
  · have := h5 f hf
    have hf2 := hg _ this.1.1
    unfold FlapI at this ⊢
    rw [hM 87 f rfl (by omega), hM 88 f rfl (by omega), hM 89 f rfl (by omega), hM _ 8 (hm _ this.1.1 8) (by omega), hM _ 9 (hm _ this.1.1 9) (by omega), hM _ 10 (hm _ this.1.1 10) (by omega)]
    exact this
  · have hi2 := hg i hi
    rw [hM _ 8 (hm i hi 8) (by omega), hM _ 9 (hm i hi 9) (by omega), hM _ 10 (hm i hi 10) (by omega)]
    exact h7 i hi q
  · rw [hM 84 i rfl (by omega), hM 85 i rfl (by omega), hM 86 i rfl (by omega)]; exact h8 i hi
  · rw [hM 88 f rfl (by omega), hM 89 f rfl (by omega)]; exact h9 f hf
/-! the reference's turn, with any bends -/
theorem m_slant2 (hn : nf ≤ 4) (h10 : M 73 10 = nI nf) (hf : ∀ f, f < nf → M 87 f = nI (fp f) ∧ fp f < 16) (hi : ∀ f g, f < nf → g < nf → fp f = fp g → f = g) {i : Nat} (hi16 : i < 16) (p : Int32) : f_X12_slantOf M (nI i) p = some (cl8 (p + M 84 i + bqF fp (M 88) nf i)) := by
  have hcl : ∀ z y : Int32, f_X12_slantOf_29 M z y = some (cl8 (y + z)) := by
    intro z y
    unfold f_X12_slantOf_29 f_X12_slantOf_58 cl8
    simp only [nm_u]
    split <;> (try split) <;> rfl
  unfold f_X12_slantOf
  rcases m_flapOf hn h10 fp hf hi16 with ⟨q1, q2⟩ | ⟨f, q1, q2, q3⟩
  · rw [q1, bd1_e, ok_t (ix_k hi16 (by decide)), if_pos rfl, hcl, nI_clamp (by omega), (bqF_no nf q2).1]
  · rw [q3, bd1_e, ok_t (ix_k hi16 (by decide)), if_neg (fun q => by have := nI_pos' (n := f) (by omega); rw [q] at this; exact absurd this (by decide)), ok_t (ix_k (show f < 4 by omega) (by decide)), hcl, nI_clamp (by omega), nI_clamp (by omega), ← q2, (bqF_at nf f q1 fun g hg q => hi g f hg q1 q).1]
theorem m_turned2 (hnp : np ≤ 16) (h9 : M 73 9 = nI np) (hn : nf ≤ 4) (h10 : M 73 10 = nI nf) (hf : ∀ f, f < nf → M 87 f = nI (fp f) ∧ fp f < 16) (hi : ∀ f g, f < nf → g < nf → fp f = fp g → f = g) (p ax : Int32) : f_X12_turned M p ax = some (Sg (fun i => hB M p ax i (bqF fp (M 88) nf i)) np) := by
  have K := lpf_for (body := fun a : Int32 × Int32 => f_X12_turned_5 M p ax a.1 a.2) (fun i (s : Int32) => (s, nI i)) (fun i s => s + hB M p ax i (bqF fp (M 88) nf i)) (fun _ _ => True) (fun s => s) np
    (fun i s hi2 _ => by
      refine ⟨?_, trivial⟩
      show f_X12_turned_5 M p ax s (nI i) = _
      have hpr : f_X12_press M (nI i) p = some (if M 86 i = 0 then vpr (M 81 i) (cl8 (p + M 84 i + bqF fp (M 88) nf i)) (M 82 i) (M 83 i) else 0) := by
        unfold f_X12_press f_X12_press_59
        rw [m_slant2 hn h10 hf hi (by omega), bd1_e, e_cos, bd1_e]
        simp only [ok_t (ix_k (show i < 16 by omega) (by decide : 16 < 2 ^ 31)), nI_clamp (show i < 2 ^ 31 by omega)]
        split <;> rfl
      unfold f_X12_turned_5 f_X12_turned_53
      simp only [h9, if_neg (nI_ge hi2 (by omega : np < 2 ^ 31)), ok_t (ix_k (show i < 16 by omega) (by decide : 16 < 2 ^ 31)), nI_clamp (show i < 2 ^ 31 by omega), hpr, bd1_e, nm_u, nI_1]
      unfold hB
      split <;> rfl)
    (fun s _ => by
      show f_X12_turned_5 M p ax s (nI np) = _
      unfold f_X12_turned_5
      rw [h9, if_pos (Int32.le_refl _)]) np 0 0 (by omega) trivial
  unfold f_X12_turned
  rw [show ((0, 0) : Int32 × Int32) = (0, nI 0) from rfl, K.1]
  rfl
/-! the class's -/
theorem cl_press (h : SailI sh M R np nf pa fp) {i : Nat} (hi : i < np) (p b : Int32) : f_X5_press sh M (pa i) p b = some (if M 86 i = 0 then vpr (M 81 i) (cl8 (p + M 84 i + b)) (M 82 i) (M 83 i) else 0) := by
  have hp := h.2.2.1 i hi
  rw [e_press5 (hk_t hp.1.2.1), hp.2.1.2.2.1, hp.2.1.2.2.2.1, hp.2.1.2.2.2.2.1, hp.2.1.2.2.2.2.2.1, hp.2.1.2.2.2.2.2.2.1]
theorem cl_arm (h : SailI sh M R np nf pa fp) {i : Nat} (hi : i < np) (ax : Int32) : f_X8_arm sh M (pa i) ax = some (if ax = 0 then M 79 i - M 73 11 else M 80 i - M 73 12) := by
  have hp := h.2.2.1 i hi
  rw [e_arm (hk_t hp.1.2.1), hp.2.1.1, hp.2.1.2.1, h.2.1.2.2.2.2.1, h.2.1.2.2.2.2.2]
/-- a memory in which only the sail's scratch has changed -/
def scrS (M M' : px_M) : Prop := ∀ c j, c ≠ 9 → c ≠ 10 → c ≠ 11 → c ≠ 12 → c ≠ 13 → ¬ (c = 6 ∧ (j = 11 ∨ j = 12)) → M' c j = M c j
theorem scrS.sail (hs : scrS M M') (h : SailI sh M R np nf pa fp) : SailI sh M' R np nf pa fp := h.scr fun c j e q => hs c j (fun x => by rw [x] at e; exact absurd (show (0 : Nat) = 2 from e) (by decide)) (fun x => by rw [x] at e; exact absurd (show (0 : Nat) = 2 from e) (by decide)) (fun x => by rw [x] at e; exact absurd (show (0 : Nat) = 2 from e) (by decide)) (fun x => by rw [x] at e; exact absurd (show (0 : Nat) = 2 from e) (by decide)) (fun x => by rw [x] at e; exact absurd (show (0 : Nat) = 2 from e) (by decide)) q
theorem scrS.hB_ (hs : scrS M M') (p ax : Int32) (i : Nat) (b : Int32) : hB M' p ax i b = hB M p ax i b := by
  unfold hB
  rw [hs 86 i (by decide) (by decide) (by decide) (by decide) (by decide) (by omega), hs 81 i (by decide) (by decide) (by decide) (by decide) (by decide) (by omega), hs 84 i (by decide) (by decide) (by decide) (by decide) (by decide) (by omega), hs 82 i (by decide) (by decide) (by decide) (by decide) (by decide) (by omega), hs 83 i (by decide) (by decide) (by decide) (by decide) (by decide) (by omega), hs 79 i (by decide) (by decide) (by decide) (by decide) (by decide) (by omega), hs 80 i (by decide) (by decide) (by decide) (by decide) (by decide) (by omega), hs 73 11 (by decide) (by decide) (by decide) (by decide) (by decide) (by omega), hs 73 12 (by decide) (by decide) (by decide) (by decide) (by decide) (by omega)]
theorem c_sumUpRest (h : SailI sh M R np nf pa fp) (p : Int32) : ∃ M', f_X8_sumUpRest sh M R p = some M' ∧ scrS M M' ∧ M' 6 11 = Sg (fun i => if isF fp nf i = true then 0 else hB M p 0 i 0) np ∧ M' 6 12 = Sg (fun i => if isF fp nf i = true then 0 else hB M p 1 i 0) np := by
  have h16 := h.1.1
  have K := lpf_for (body := fun a : Int32 × px_M => f_X8_sumUpRest_12 sh a.2 R p a.1) (fun i (M' : px_M) => (nI i, M')) (fun i M' => if isF fp nf i = true then M' else px_u (px_u M' 6 11 (M' 6 11 + hB M p 0 i 0)) 6 12 (M' 6 12 + hB M p 1 i 0))
    (fun k M' => scrS M M' ∧ M' 6 11 = Sg (fun i => if isF fp nf i = true then 0 else hB M p 0 i 0) k ∧ M' 6 12 = Sg (fun i => if isF fp nf i = true then 0 else hB M p 1 i 0) k) (fun M' => M') np
    (fun i M' hi hP => by
      obtain ⟨p1, p2, p3⟩ := hP
      have h' := p1.sail h
      have hp := h'.2.2.1 i hi
      have hpk := hp.1.2.2
      have hfl : (isF fp nf i = true ∧ M' (pa i) 8 = 1) ∨ (isF fp nf i = false ∧ M' (pa i) 8 = 0) := by
        by_cases q : ∃ f, f < nf ∧ fp f = i
        · obtain ⟨f, f1, f2⟩ := q
          left
          rw [← f2]
          exact ⟨(bqF_at (b := fun _ => 0) nf f f1 fun g hg q => h.2.2.2.2.2.1 g f hg f1 q).2, (h'.2.2.2.2.1 f f1).2.1.1⟩
        · right
          have q2 : ∀ f, f < nf → fp f ≠ i := fun f hf e => q ⟨f, hf, e⟩
          exact ⟨(bqF_no (b := fun _ => 0) nf q2).2, (h'.2.2.2.2.2.2.1 i hi q2).1⟩
      have hx : ix (nI i) 16 = true := ix_k (show i < 16 by omega) (by decide)
      have hcl : (nI i).toNatClampNeg = i := nI_clamp (by omega)
      rw [Sg_succ, Sg_succ]
      rcases hfl with ⟨q1, q2⟩ | ⟨q1, q2⟩
      · simp only [q1, if_true, Int32.add_zero]
        refine ⟨?_, p1, p2, p3⟩
        show f_X8_sumUpRest_12 sh M' R p (nI i) = _
        unfold f_X8_sumUpRest_12 f_X8_sumUpRest_88
        rw [h'.2.1.1, if_neg (nI_ge hi (by omega)), ok_t hx, hcl, hp.1.1, bd1_e, ok_t (hk_t hp.1.2.1), q2, if_neg (by decide), nI_1]
      · simp only [q1, Bool.false_eq_true, if_false]
        refine ⟨?_, fun c j c1 c2 c3 c4 c5 c6 => ?_, ?_, ?_⟩
        · show f_X8_sumUpRest_12 sh M' R p (nI i) = _
          have hM2 : scrS M (px_u M' 6 11 (M' 6 11 + hB M p 0 i 0)) := fun c j c1 c2 c3 c4 c5 c6 => by rw [pu_n (by omega)]; exact p1 c j c1 c2 c3 c4 c5 c6
          have h2 := hM2.sail h
          have e12 : (px_u M' 6 11 (M' 6 11 + hB M p 0 i 0)) 6 12 = M' 6 12 := pu_n (by omega)
          have ebx : ∀ ax : Int32, ((if M' 86 i = 0 then vpr (M' 81 i) (cl8 (p + M' 84 i + 0)) (M' 82 i) (M' 83 i) else 0) * (if ax = 0 then M' 79 i - M' 73 11 else M' 80 i - M' 73 12)) = hB M p ax i 0 := fun ax => p1.hB_ p ax i 0
          unfold f_X8_sumUpRest_12 f_X8_sumUpRest_88
          rw [h'.2.1.1, if_neg (nI_ge hi (by omega)), ok_t hx, hcl, hp.1.1, bd1_e, ok_t (hk_t hp.1.2.1), q2, if_pos rfl, ok_t hx, bd1_e, ok_t (hk_t hp.1.2.1), cl_press h' hi, bd1_e, ok_t hx, bd1_e, cl_arm h' hi, bd1_e, ebx 0, nm_u, nm_u, ok_t hx, bd1_e, cl_arm h2 hi, bd1_e]
          have e79 : ∀ c j, c ≠ 6 → (px_u M' 6 11 (M' 6 11 + hB M p 0 i 0)) c j = M' c j := fun c j hc => pu_n (by omega)
          rw [e79 79 i (by decide), e79 80 i (by decide), e79 73 11 (by decide), e79 73 12 (by decide), ebx 1, e12, nm_u, nm_u, nI_1]
        · rw [pu_n (by omega), pu_n (by omega)]; exact p1 c j c1 c2 c3 c4 c5 c6
        · rw [pu_n (by omega), px_u_in, p2]
        · rw [px_u_in, p3])
    (fun M' hP => by
      show f_X8_sumUpRest_12 sh M' R p (nI np) = _
      unfold f_X8_sumUpRest_12
      rw [(hP.1.sail h).2.1.1, if_pos (Int32.le_refl _)]) np 0 (px_u (px_u M 6 11 0) 6 12 0) (by omega) ⟨fun c j c1 c2 c3 c4 c5 c6 => by rw [pu_n (by omega), pu_n (by omega)], by rw [pu_n (by omega), px_u_in]; rfl, by rw [px_u_in]; rfl⟩
  refine ⟨_, ?_, K.2⟩
  unfold f_X8_sumUpRest
  rw [nm_u, nm_u, show lpf (fun a : Int32 × px_M => f_X8_sumUpRest_12 sh a.2 R p a.1) (0, px_u (px_u M 6 11 0) 6 12 0) = _ from K.1]
  rfl
def szF (M : px_M) (f : Nat) : Nat := if M 89 f = 0 then 5 else 1
def fiF (M : px_M) (f : Nat) : Int32 := if M 89 f = 0 then -2 else M 88 f
/-- what tableFlaps leaves of the flap f -/
def TabI (M M' : px_M) (p : Int32) (fp : Nat → Nat) (f : Nat) : Prop := M' 10 f = fiF M f ∧ M' 11 f = fiF M f ∧ M' 12 f = fiF M f + nI (szF M f - 1) ∧ ∀ e, e < 5 → M' 13 (5 * f + e) = (if M 86 (fp f) = 0 then vpr (M 81 (fp f)) (cl8 (p + M 84 (fp f) + (nI e - 2))) (M 82 (fp f)) (M 83 (fp f)) else 0)
theorem c_tableFlaps (h : SailI sh M R np nf pa fp) (p : Int32) (hs0 : scrS M M') : ∃ M2, f_X8_tableFlaps sh M' R p = some M2 ∧ scrS M M2 ∧ M2 6 11 = M' 6 11 ∧ M2 6 12 = M' 6 12 ∧ ∀ f, f < nf → TabI M M2 p fp f := by
  have h4 := h.1.2
  have hbody : ∀ f M1, f < nf → scrS M M1 → ∃ M2, f_X8_tableFlaps_2 sh M1 R p (nI f) = some (.inl (nI (f + 1), M2)) ∧ scrS M M2 ∧ TabI M M2 p fp f ∧ (∀ c j, ¬ (10 ≤ c ∧ c ≤ 12 ∧ j = f) → ¬ (c = 13 ∧ 5 * f ≤ j ∧ j < 5 * f + 5) → M2 c j = M1 c j) := by
    intro f M1 hf hs1
    have h' := hs1.sail h
    have hfl := h'.2.2.2.2.1 f hf
    have hfp := hfl.1.1
    have hp := h'.2.2.1 _ hfp
    have hpk := hp.1.2.2
    have hx : ix (nI f) 4 = true := ix_k (show f < 4 by omega) (by decide)
    have hcl : (nI f).toNatClampNeg = f := nI_clamp (by omega)
    have e88 : M1 88 f = M 88 f := hs1 88 f (by decide) (by decide) (by decide) (by decide) (by decide) (by omega)
    have e89 : M1 89 f = M 89 f := hs1 89 f (by decide) (by decide) (by decide) (by decide) (by decide) (by omega)
    -- the loop over the five bends
    have hin : ∀ M3, scrS M M3 → ∃ M4, lpf (fun a : Int32 × px_M => f_X8_tableFlaps_76 sh a.2 R p (nI f) (pa (fp f)) a.1) (-2, M3) = some M4 ∧ (∀ c j, ¬ (c = 13 ∧ 5 * f ≤ j ∧ j < 5 * f + 5) → M4 c j = M3 c j) ∧ ∀ e, e < 5 → M4 13 (5 * f + e) = (if M 86 (fp f) = 0 then vpr (M 81 (fp f)) (cl8 (p + M 84 (fp f) + (nI e - 2))) (M 82 (fp f)) (M 83 (fp f)) else 0) := by
      intro M3 hs3
      have K := lpf_for (body := fun a : Int32 × px_M => f_X8_tableFlaps_76 sh a.2 R p (nI f) (pa (fp f)) a.1) (fun e (M' : px_M) => (nI e - 2, M')) (fun e M' => px_u M' 13 (5 * f + e) (if M 86 (fp f) = 0 then vpr (M 81 (fp f)) (cl8 (p + M 84 (fp f) + (nI e - 2))) (M 82 (fp f)) (M 83 (fp f)) else 0))
        (fun k M' => (∀ c j, ¬ (c = 13 ∧ 5 * f ≤ j ∧ j < 5 * f + 5) → M' c j = M3 c j) ∧ ∀ e, e < k → M' 13 (5 * f + e) = (if M 86 (fp f) = 0 then vpr (M 81 (fp f)) (cl8 (p + M 84 (fp f) + (nI e - 2))) (M 82 (fp f)) (M 83 (fp f)) else 0)) (fun M' => M') 5
        (fun e M' he hP => by
          obtain ⟨p1, p2⟩ := hP
          have hs4 : scrS M M' := fun c j c1 c2 c3 c4 c5 c6 => by rw [p1 c j (by omega)]; exact hs3 c j c1 c2 c3 c4 c5 c6
          have h5 := hs4.sail h
          have hv : ∀ c j, c ≠ 9 → c ≠ 10 → c ≠ 11 → c ≠ 12 → c ≠ 13 → c ≠ 6 → M' c j = M c j := fun c j c1 c2 c3 c4 c5 c6 => hs4 c j c1 c2 c3 c4 c5 (by omega)
          refine ⟨?_, fun c j q => ?_, fun u hu => ?_⟩
          · show f_X8_tableFlaps_76 sh M' R p (nI f) (pa (fp f)) (nI e - 2) = some (.inl (nI (e + 1) - 2, _))
            have t1 : ¬ 2 < nI e - 2 := by
              rw [Int32.lt_iff_toInt_lt, show (nI e - 2).toInt = (e : Int) - 2 from pk_sub_toInt (b := 2) (by omega) (by decide), show (2 : Int32).toInt = 2 from by decide]
              omega
            have t2 : nI f * 5 + (nI e - 2) + 2 = nI (5 * f + e) := by
              rw [show (5 : Int32) = nI 5 from rfl, pk_mul, ← nI_add (5 * f) e, Nat.mul_comm 5 f]
              grind
            have t3 : nI e - 2 + 1 = nI (e + 1) - 2 := by
              rw [← nI_1]
              grind
            unfold f_X8_tableFlaps_76
            rw [if_neg t1, ok_t (hk_t hp.1.2.1), cl_press h5 hfp, bd1_e, t2, ok_t (ix_k (show 5 * f + e < 20 by omega) (by decide)), nm_u, nI_clamp (by omega), t3, hv 86 _ (by decide) (by decide) (by decide) (by decide) (by decide) (by decide), hv 81 _ (by decide) (by decide) (by decide) (by decide) (by decide) (by decide), hv 84 _ (by decide) (by decide) (by decide) (by decide) (by decide) (by decide), hv 82 _ (by decide) (by decide) (by decide) (by decide) (by decide) (by decide), hv 83 _ (by decide) (by decide) (by decide) (by decide) (by decide) (by decide)]
          · rw [pu_n (by omega)]; exact p1 c j q
          · by_cases e1 : u = e
            · subst e1; exact px_u_in _ _ _ _
            · rw [pu_n (by omega)]; exact p2 u (by omega))
        (fun M' _ => by
          show f_X8_tableFlaps_76 sh M' R p (nI f) (pa (fp f)) (nI 5 - 2) = _
          unfold f_X8_tableFlaps_76
          rw [if_pos (by decide)]) 5 0 M3 rfl ⟨fun _ _ _ => rfl, fun e he => absurd he (by omega)⟩
      exact ⟨_, K.1, K.2⟩
    have h59 : ∀ (z : Int32) (M3 : px_M), scrS M M3 → M3 11 f = fiF M f → ∃ M4, f_X8_tableFlaps_59 sh M3 R p (nI f) (pa (fp f)) z (nI f) = some (.inl (nI (f + 1), M4)) ∧ M4 10 f = fiF M f ∧ M4 11 f = fiF M f ∧ M4 12 f = z ∧ (∀ e, e < 5 → M4 13 (5 * f + e) = (if M 86 (fp f) = 0 then vpr (M 81 (fp f)) (cl8 (p + M 84 (fp f) + (nI e - 2))) (M 82 (fp f)) (M 83 (fp f)) else 0)) ∧ ∀ c j, ¬ (10 ≤ c ∧ c ≤ 12 ∧ j = f) → ¬ (c = 13 ∧ 5 * f ≤ j ∧ j < 5 * f + 5) → M4 c j = M3 c j := by
      intro z M3 hs3 h11
      have hs4 : scrS M (px_u (px_u M3 12 f z) 10 f (fiF M f)) := fun c j c1 c2 c3 c4 c5 c6 => by rw [pu_n (by omega), pu_n (by omega)]; exact hs3 c j c1 c2 c3 c4 c5 c6
      obtain ⟨M4, a1, a2, a3⟩ := hin _ hs4
      refine ⟨M4, ?_, by rw [a2 10 f (by omega), px_u_in], by rw [a2 11 f (by omega), pu_n (by omega), pu_n (by omega)]; exact h11, by rw [a2 12 f (by omega), pu_n (by omega), px_u_in], a3, fun c j q1 q2 => by rw [a2 c j q2, pu_n (by omega), pu_n (by omega)]⟩
      unfold f_X8_tableFlaps_59
      rw [ok_t hx, hcl, nm_u, ok_t hx, nm_u, pu_n (by omega), h11, ok_t hx, nm_u, a1, bd1_e, nI_1]
    have hbk : M1 (pa (fp f)) 10 = M 89 f := by rw [hfl.2.1.2.2, e89]
    have hb9 : M1 (pa (fp f)) 9 = M 88 f := by rw [hfl.2.1.2.1, e88]
    have hs38 : scrS M (px_u M1 11 f (fiF M f)) := fun c j c1 c2 c3 c4 c5 c6 => by rw [pu_n (by omega)]; exact hs1 c j c1 c2 c3 c4 c5 c6
    by_cases q : M 89 f = 0
    · have efi : fiF M f = -2 := if_pos q
      have esz : szF M f = 5 := if_pos q
      obtain ⟨M4, b1, b2, b3, b4, b5, b6⟩ := h59 2 (px_u M1 11 f (fiF M f)) hs38 (px_u_in _ _ _ _)
      refine ⟨M4, ?_, fun c j c1 c2 c3 c4 c5 c6 => by rw [b6 c j (by omega) (by omega), pu_n (by omega)]; exact hs1 c j c1 c2 c3 c4 c5 c6, ⟨b2, b3, by rw [b4, efi, esz]; rfl, b5⟩, fun c j q1 q2 => by rw [b6 c j q1 q2, pu_n (by omega)]⟩
      unfold f_X8_tableFlaps_2 f_X8_tableFlaps_38
      rw [h'.2.1.2.2.1, if_neg (nI_ge hf (by omega)), ok_t hx, hcl, hfl.1.2.1, bd1_e, ok_t (hk_t hp.1.2.1), hbk, if_pos q, ok_t hx, nm_u, ok_t (hk_t hp.1.2.1), pu_n (by omega), hbk, if_pos q, ← efi, b1]
    · have efi : fiF M f = M 88 f := if_neg q
      have esz : szF M f = 1 := if_neg q
      obtain ⟨M4, b1, b2, b3, b4, b5, b6⟩ := h59 (M 88 f) (px_u M1 11 f (fiF M f)) hs38 (px_u_in _ _ _ _)
      refine ⟨M4, ?_, fun c j c1 c2 c3 c4 c5 c6 => by rw [b6 c j (by omega) (by omega), pu_n (by omega)]; exact hs1 c j c1 c2 c3 c4 c5 c6, ⟨b2, b3, by rw [b4, efi, esz]; exact (Int32.add_zero _).symm, b5⟩, fun c j q1 q2 => by rw [b6 c j q1 q2, pu_n (by omega)]⟩
      unfold f_X8_tableFlaps_2 f_X8_tableFlaps_38
      rw [h'.2.1.2.2.1, if_neg (nI_ge hf (by omega)), ok_t hx, hcl, hfl.1.2.1, bd1_e, ok_t (hk_t hp.1.2.1), hbk, if_neg q, ok_t (hk_t hp.1.2.1), ok_t hx, hb9, nm_u, ok_t (hk_t hp.1.2.1), pu_n (by omega), hbk, if_neg q, ok_t (hk_t hp.1.2.1), pu_n (by omega), hb9, ← efi]
      rw [← efi] at b1
      exact b1
  have hloop : ∀ (m f : Nat) (M1 : px_M), f + m = nf → scrS M M1 → M1 6 11 = M' 6 11 → M1 6 12 = M' 6 12 → (∀ g, g < f → TabI M M1 p fp g) → ∃ M2, lpf (fun a : Int32 × px_M => f_X8_tableFlaps_2 sh a.2 R p a.1) (nI f, M1) = some M2 ∧ scrS M M2 ∧ M2 6 11 = M' 6 11 ∧ M2 6 12 = M' 6 12 ∧ ∀ g, g < nf → TabI M M2 p fp g := by
    intro m
    induction m with
    | zero =>
      intro f M1 hm hs1 r1 r2 ht
      obtain rfl : f = nf := by omega
      refine ⟨M1, lpf_end ?_, hs1, r1, r2, ht⟩
      show f_X8_tableFlaps_2 sh M1 R p (nI f) = _
      unfold f_X8_tableFlaps_2
      rw [(hs1.sail h).2.1.2.2.1, if_pos (Int32.le_refl _)]
    | succ m ih =>
      intro f M1 hm hs1 r1 r2 ht
      obtain ⟨M2, b1, b2, b3, b4⟩ := hbody f M1 (by omega) hs1
      rw [lpf_go (body := fun a : Int32 × px_M => f_X8_tableFlaps_2 sh a.2 R p a.1) (a := (nI f, M1)) b1]
      refine ih (f + 1) M2 (by omega) b2 (by rw [b4 6 11 (by omega) (by omega)]; exact r1) (by rw [b4 6 12 (by omega) (by omega)]; exact r2) fun g hg => ?_
      by_cases e : g = f
      · rw [e]; exact b3
      · obtain ⟨t1, t2, t3, t4⟩ := ht g (by omega)
        exact ⟨by rw [b4 10 g (by omega) (by omega)]; exact t1, by rw [b4 11 g (by omega) (by omega)]; exact t2, by rw [b4 12 g (by omega) (by omega)]; exact t3, fun u hu => by rw [b4 13 _ (by omega) (by omega)]; exact t4 u hu⟩
  obtain ⟨M2, b1, b2⟩ := hloop nf 0 M' (by omega) hs0 rfl rfl (fun g hg => absurd hg (by omega))
  refine ⟨M2, ?_, b2⟩
  unfold f_X8_tableFlaps
  rw [show lpf (fun a : Int32 × px_M => f_X8_tableFlaps_2 sh a.2 R p a.1) (0, M') = _ from b1]
  rfl
end TRIM
