/-! rows of digits: the class counts on, the reference decodes a number -/
theorem tI_add {a b : Int32} (ha : -1073741824 ≤ a.toInt ∧ a.toInt < 1073741824) (hb : -1073741824 ≤ b.toInt ∧ b.toInt < 1073741824) : (a + b).toInt = a.toInt + b.toInt := by
  rw [Int32.toInt_add, Int.bmod_def]
  split <;> omega
theorem tI_sub {a b : Int32} (ha : -1073741824 ≤ a.toInt ∧ a.toInt < 1073741824) (hb : -1073741824 ≤ b.toInt ∧ b.toInt < 1073741824) : (a - b).toInt = a.toInt - b.toInt := by
  rw [Int32.toInt_sub, Int.bmod_def]
  split <;> omega
theorem fld_shift {σ : Type} (g : Nat → σ → σ) : ∀ (m a : Nat) (s : σ), fld g a m s = fld (fun x => g (a + x)) 0 m s
  | 0, _, _ => rfl
  | m + 1, a, s => by
    show fld g (a + 1) m (g a s) = fld (fun x => g (a + x)) (0 + 1) m (g (a + 0) s)
    rw [fld_shift g m (a + 1), fld_shift (fun x => g (a + x)) m (0 + 1)]
    congr 1
    funext x
    rw [show a + 1 + x = a + (0 + 1 + x) by omega]
theorem fld_mul {σ : Type} (G : Nat → Nat → σ → σ) {s : Nat} (hs : 0 < s) : ∀ (T : Nat) (st : σ), fld (fun t st => G (t / s) (t % s) st) 0 (T * s) st = fld (fun t' st => fld (fun x st => G t' x st) 0 s st) 0 T st
  | 0, st => by rw [Nat.zero_mul]; rfl
  | T + 1, st => by
    rw [Nat.succ_mul, fld_add, fld_mul G hs T st, fld_last, Nat.zero_add, Nat.zero_add, fld_shift]
    refine fld_congr _ _ _ fun x _ hx st => ?_
    have hx' : x < s := by omega
    rw [show (T * s + x) / s = T by rw [Nat.mul_comm, Nat.mul_add_div hs, Nat.div_eq_of_lt hx', Nat.add_zero], show (T * s + x) % s = x by rw [Nat.mul_comm, Nat.mul_add_mod, Nat.mod_eq_of_lt hx']]
def dgt (sz : Nat → Nat) : Nat → Nat → Nat → Nat
  | 0, _, _ => 0
  | j + 1, t, f => if f = j then t % sz j else dgt sz j (t / sz j) f
def Tn (sz : Nat → Nat) : Nat → Nat
  | 0 => 1
  | j + 1 => Tn sz j * sz j
def mayB (stk : Nat → Bool) : Nat → Nat → Bool
  | 0, _ => true
  | j + 1, v => mayB stk j (v / 5) && (!stk j || v % 5 == 0)
theorem dgt_lt {sz : Nat → Nat} (h : ∀ f, 0 < sz f) : ∀ j t f, f < j → dgt sz j t f < sz f
  | 0, t, f, hf => absurd hf (by omega)
  | j + 1, t, f, hf => by
    unfold dgt
    by_cases e : f = j
    · rw [if_pos e, e]; exact Nat.mod_lt _ (h j)
    · rw [if_neg e]; exact dgt_lt h j _ f (by omega)
theorem Tn_pos {sz : Nat → Nat} (h : ∀ f, 0 < sz f) : ∀ j, 0 < Tn sz j
  | 0 => Nat.zero_lt_one
  | j + 1 => Nat.mul_pos (Tn_pos h j) (h j)
theorem Tn_le {sz : Nat → Nat} {b : Nat} (h : ∀ f, sz f ≤ b) : ∀ j, Tn sz j ≤ b ^ j
  | 0 => Nat.le_refl _
  | j + 1 => by
    unfold Tn
    rw [Nat.pow_succ]
    exact Nat.mul_le_mul (Tn_le h j) (h j)
theorem rows_eq {σ : Type} {sz : Nat → Nat} {stk : Nat → Bool} (hsz : ∀ f, sz f = if stk f = true then 1 else 5) : ∀ (j : Nat) (step : (Nat → Nat) → σ → σ) (st : σ),
    fld (fun t => step (dgt sz j t)) 0 (Tn sz j) st = fld (fun v s => if mayB stk j v = true then step (dgt (fun _ => 5) j v) s else s) 0 (5 ^ j) st
  | 0, step, st => rfl
  | j + 1, step, st => by
    have hpos : 0 < sz j := by rw [hsz]; split <;> decide
    have h1 : fld (fun t => step (dgt sz (j + 1) t)) 0 (Tn sz (j + 1)) st = fld (fun t' st => fld (fun x st => step (fun f => if f = j then x else dgt sz j t' f) st) 0 (sz j) st) 0 (Tn sz j) st := fld_mul (fun t' x st => step (fun f => if f = j then x else dgt sz j t' f) st) hpos (Tn sz j) st
    have h2 : fld (fun v s => if mayB stk (j + 1) v = true then step (dgt (fun _ => 5) (j + 1) v) s else s) 0 (5 ^ (j + 1)) st = fld (fun v' st => fld (fun y s => if (mayB stk j v' && (!stk j || y == 0)) = true then step (fun f => if f = j then y else dgt (fun _ => 5) j v' f) s else s) 0 5 st) 0 (5 ^ j) st := by
      rw [Nat.pow_succ]
      exact fld_mul (fun v' y s => if (mayB stk j v' && (!stk j || y == 0)) = true then step (fun f => if f = j then y else dgt (fun _ => 5) j v' f) s else s) (by decide) (5 ^ j) st
    rw [h1, h2, rows_eq hsz j (fun d st => fld (fun x st => step (fun f => if f = j then x else d f) st) 0 (sz j) st) st]
    refine fld_congr _ _ _ fun v _ _ st => ?_
    rw [hsz]
    cases mayB stk j v with
    | false => rfl
    | true =>
      cases stk j with
      | true => rfl
      | false => rfl
section ROWS
variable {sh : px_Sh} {sz : Nat → Nat} {fi : Nat → Int32} {a0 a1 a2 : Nat}
theorem fi_le {x : Int32} (hx : -100 ≤ x.toInt ∧ x.toInt ≤ 100) {a b : Nat} (ha : a < 1000) (hb : b < 1000) : (x + nI a ≤ x + nI b) ↔ a ≤ b := by
  have ea : (nI a).toInt = (a : Int) := nI_toInt (by omega)
  have eb : (nI b).toInt = (b : Int) := nI_toInt (by omega)
  rw [Int32.le_iff_toInt_le, tI_add (by omega) (by omega), tI_add (by omega) (by omega)]
  omega
theorem nxRow (h0 : sh a0 = some (13, 4)) (h1 : sh a1 = some (13, 4)) (h2 : sh a2 = some (13, 4)) (n1 : a1 ≠ a0) (n2 : a2 ≠ a0) (hsz : ∀ f, 1 ≤ sz f ∧ sz f ≤ 5) (hfi : ∀ f, -100 ≤ (fi f).toInt ∧ (fi f).toInt ≤ 100) : ∀ (j t : Nat) (M : px_M), j ≤ 4 → (∀ f, f < j → M a1 f = fi f ∧ M a2 f = fi f + nI (sz f - 1)) → (∀ f, f < j → M a0 f = fi f + nI (dgt sz j t f)) → t < Tn sz j →
    ∃ M', bdS (lpf (fun a : Int32 × px_M => f_X11_nextRow_5 sh a.2 a0 a1 a2 a.1) (nI j - 1, M)) (fun t_5_0 => ok (xk sh a0 13 t_5_0.1) <| nm ((t_5_0.2 a0 t_5_0.1.toNatClampNeg) + 1) fun v_28 => ok (xk sh a0 13 t_5_0.1) <| nm (px_u t_5_0.2 a0 t_5_0.1.toNatClampNeg v_28) fun M_28 => some (1, M_28)) (fun u_5_0 => some (0, u_5_0)) = some (b2 (decide (t + 1 < Tn sz j)), M') ∧ (∀ f, f < j → M' a0 f = fi f + nI (dgt sz j (t + 1) f)) ∧ ∀ a i, ¬ (a = a0 ∧ i < j) → M' a i = M a i
  | 0, t, M, _, _, _, ht => by
    refine ⟨M, ?_, fun f hf => absurd hf (by omega), fun _ _ _ => rfl⟩
    have hb : lpf (fun a : Int32 × px_M => f_X11_nextRow_5 sh a.2 a0 a1 a2 a.1) (nI 0 - 1, M) = some (.inr M) := lpf_end (by
      show f_X11_nextRow_5 sh M a0 a1 a2 (nI 0 - 1) = _
      unfold f_X11_nextRow_5
      rw [if_pos (by decide)])
    rw [hb, decide_eq_false (show ¬ t + 1 < Tn sz 0 by unfold Tn; omega)]
    rfl
  | j + 1, t, M, hj, hl, hd, ht => by
    have hs := hsz j
    have hmod : t % sz j < sz j := Nat.mod_lt _ (by omega)
    have e0 : M a0 j = fi j + nI (t % sz j) := by
      have := hd j (by omega)
      unfold dgt at this
      rw [if_pos rfl] at this
      exact this
    have ex0 : xk sh a0 13 (nI j) = true := xk_t h0 (ix_k (show j < 4 by omega) (by decide))
    have ex1 : xk sh a1 13 (nI j) = true := xk_t h1 (ix_k (show j < 4 by omega) (by decide))
    have ex2 : xk sh a2 13 (nI j) = true := xk_t h2 (ix_k (show j < 4 by omega) (by decide))
    have hdiv : t / sz j < Tn sz j := by
      rw [Nat.div_lt_iff_lt_mul (by omega)]
      exact ht
    rw [nI_pred]
    have hb : f_X11_nextRow_5 sh M a0 a1 a2 (nI j) = if sz j - 1 ≤ t % sz j then some (.inl (nI j + -1, px_u M a0 j (fi j))) else some (.inr (.inl (nI j, M))) := by
      unfold f_X11_nextRow_5
      rw [if_neg (nI_pos (by omega)), ok_t ex0, ok_t ex2, nI_clamp (by omega), (hl j (by omega)).2, e0, ifi (fi_le (hfi j) (by omega) (by omega)), ok_t ex1, nm_u, (hl j (by omega)).1, ok_t ex0, nm_u]
    by_cases q : sz j - 1 ≤ t % sz j
    · rw [if_pos q] at hb
      have hm : t % sz j = sz j - 1 := by omega
      have hdm := Nat.div_add_mod t (sz j)
      have ht1 : t + 1 = sz j * (t / sz j + 1) := by rw [Nat.mul_add, Nat.mul_one]; omega
      have e1 : (t + 1) / sz j = t / sz j + 1 := by rw [ht1, Nat.mul_div_cancel_left _ (by omega)]
      have e2 : (t + 1) % sz j = 0 := by rw [ht1, Nat.mul_mod_right]
      obtain ⟨M', r1, r2, r3⟩ := nxRow h0 h1 h2 n1 n2 hsz hfi j (t / sz j) (px_u M a0 j (fi j)) (by omega) (fun f hf => by
        rw [pu_n (by omega), pu_n (by omega)]; exact hl f (by omega)) (fun f hf => by
        rw [pu_n (by omega), hd f (by omega)]
        have : dgt sz (j + 1) t f = dgt sz j (t / sz j) f := if_neg (show ¬ f = j by omega)
        rw [this]) hdiv
      refine ⟨M', ?_, fun f hf => ?_, fun a i hn => ?_⟩
      · rw [lpf_go (body := fun a : Int32 × px_M => f_X11_nextRow_5 sh a.2 a0 a1 a2 a.1) (a := (nI j, M)) hb, show nI j + -1 = nI j - 1 by rw [Int32.sub_eq_add_neg], r1]
        have : (t + 1 < Tn sz (j + 1)) ↔ (t / sz j + 1 < Tn sz j) := by
          show t + 1 < Tn sz j * sz j ↔ _
          rw [← e1, Nat.div_lt_iff_lt_mul (by omega)]
        rw [show decide (t + 1 < Tn sz (j + 1)) = decide (t / sz j + 1 < Tn sz j) from decide_eq_decide.mpr this]
      · unfold dgt
        by_cases e : f = j
        · rw [if_pos e, e, r3 a0 j (by omega), px_u_in, e2]
          show fi j = fi j + 0
          rw [Int32.add_zero]
        · rw [if_neg e, e1]; exact r2 f (by omega)
      · rw [r3 a i (by omega), pu_n (by omega)]
    · rw [if_neg q] at hb
      have hdm := Nat.div_add_mod t (sz j)
      have e1 : (t + 1) / sz j = t / sz j := by
        rw [show t + 1 = sz j * (t / sz j) + (t % sz j + 1) by omega, Nat.mul_add_div (by omega), show (t % sz j + 1) / sz j = 0 from Nat.div_eq_of_lt (by omega), Nat.add_zero]
      have e2 : (t + 1) % sz j = t % sz j + 1 := by
        rw [show t + 1 = sz j * (t / sz j) + (t % sz j + 1) by omega, Nat.mul_add_mod, Nat.mod_eq_of_lt (by omega)]
      refine ⟨px_u M a0 j (fi j + nI (t % sz j + 1)), ?_, fun f hf => ?_, fun a i hn => pu_n (by omega)⟩
      · rw [lpf_end (body := fun a : Int32 × px_M => f_X11_nextRow_5 sh a.2 a0 a1 a2 a.1) (a := (nI j, M)) hb, bdS_l (a := (nI j, M)) rfl]
        dsimp only
        rw [ok_t ex0, nm_u, nI_clamp (by omega), e0, ok_t ex0, nm_u, Int32.add_assoc, nI_1, decide_eq_true (show t + 1 < Tn sz (j + 1) by
          show t + 1 < Tn sz j * sz j
          rw [← Nat.div_lt_iff_lt_mul (by omega), e1]; exact hdiv)]
        rfl
      · unfold dgt
        by_cases e : f = j
        · rw [if_pos e, e, px_u_in, e2]
        · rw [if_neg e, e1, pu_n (by omega), hd f (by omega)]
          have : dgt sz (j + 1) t f = dgt sz j (t / sz j) f := if_neg e
          rw [this]
theorem c_nextRow (h0 : sh a0 = some (13, 4)) (h1 : sh a1 = some (13, 4)) (h2 : sh a2 = some (13, 4)) (n1 : a1 ≠ a0) (n2 : a2 ≠ a0) (hsz : ∀ f, 1 ≤ sz f ∧ sz f ≤ 5) (hfi : ∀ f, -100 ≤ (fi f).toInt ∧ (fi f).toInt ≤ 100) {j t : Nat} {M : px_M} (hj : j ≤ 4) (hl : ∀ f, f < j → M a1 f = fi f ∧ M a2 f = fi f + nI (sz f - 1)) (hd : ∀ f, f < j → M a0 f = fi f + nI (dgt sz j t f)) (ht : t < Tn sz j) :
    ∃ M', f_X11_nextRow sh M a0 a1 a2 (nI j) = some (b2 (decide (t + 1 < Tn sz j)), M') ∧ (∀ f, f < j → M' a0 f = fi f + nI (dgt sz j (t + 1) f)) ∧ ∀ a i, ¬ (a = a0 ∧ i < j) → M' a i = M a i := by
  obtain ⟨M', r1, r2⟩ := nxRow h0 h1 h2 n1 n2 hsz hfi j t M hj hl hd ht
  refine ⟨M', ?_, r2⟩
  unfold f_X11_nextRow
  rw [nm_u]
  exact r1
end ROWS
