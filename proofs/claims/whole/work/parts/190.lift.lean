/-! a method as a function of the memory: the words that the functions are made of -/
def ok {α : Type} (c : Bool) (A : Option α) : Option α := if c = true then A else none
theorem ok_some {α : Type} {c : Bool} {A : Option α} {r : α} (h : ok c A = some r) : c = true ∧ A = some r := by
  unfold ok at h
  split at h
  next hc => exact ⟨hc, h⟩
  next => cases h
theorem ok_t {α : Type} {c : Bool} {A : Option α} (h : c = true) : ok c A = A := if_pos h
def bd1 {α β : Type} (x : Option α) (f : α → Option β) : Option β := match x with
  | none => none
  | some a => f a
theorem bd1_some {α β : Type} {x : Option α} {f : α → Option β} {r : β} (h : bd1 x f = some r) : ∃ a, x = some a ∧ f a = some r := by
  cases x with
  | none => cases h
  | some a => exact ⟨a, rfl, h⟩
theorem bd1_t {α β : Type} {x : Option α} {f : α → Option β} {a : α} (h : x = some a) : bd1 x f = f a := by rw [h]; rfl
def bdS {α γ β : Type} (x : Option (α ⊕ γ)) (f : α → Option β) (g : γ → Option β) : Option β := match x with
  | none => none
  | some (.inl a) => f a
  | some (.inr b) => g b
theorem bdS_some {α γ β : Type} {x : Option (α ⊕ γ)} {f : α → Option β} {g : γ → Option β} {r : β} (h : bdS x f g = some r) : (∃ a, x = some (.inl a) ∧ f a = some r) ∨ (∃ b, x = some (.inr b) ∧ g b = some r) := by
  match x, h with
  | none, h => cases h
  | some (.inl a), h => exact Or.inl ⟨a, rfl, h⟩
  | some (.inr b), h => exact Or.inr ⟨b, rfl, h⟩
theorem bdS_l {α γ β : Type} {x : Option (α ⊕ γ)} {f : α → Option β} {g : γ → Option β} {a : α} (h : x = some (.inl a)) : bdS x f g = f a := by rw [h]; rfl
theorem bdS_r {α γ β : Type} {x : Option (α ⊕ γ)} {f : α → Option β} {g : γ → Option β} {b : γ} (h : x = some (.inr b)) : bdS x f g = g b := by rw [h]; rfl
def nm {α β : Type} (x : α) (f : α → Option β) : Option β := f x
theorem nm_at {α β : Type} {x y : α} {f : α → Option β} {r : β} (h : nm x f = some r) (e : y = x) : f y = some r := by rw [e]; exact h
theorem it_t {α : Type} {c : Prop} [Decidable c] {A B : Option α} {r : α} (h : (if c then A else B) = some r) (hc : c) : A = some r := (if_pos hc).symm.trans h
theorem it_f {α : Type} {c : Prop} [Decidable c] {A B : Option α} {r : α} (h : (if c then A else B) = some r) (hc : ¬ c) : B = some r := (if_neg hc).symm.trans h
def ix (i : Int32) (n : Nat) : Bool := !(decide (i < 0) || decide (n ≤ i.toNatClampNeg))
theorem ix_in {i : Int32} {n : Nat} (h : ix i n = true) : vp_in i n := by
  unfold ix at h
  intro q
  rcases q with q | q <;> simp [q] at h
theorem ix_k {k n : Nat} (h : k < n) (hn : n < 2 ^ 31) : ix (nI k) n = true := by
  have h1 : ¬ (nI k < 0) := nI_pos (by omega)
  unfold ix
  rw [nI_clamp (by omega), decide_eq_false h1, decide_eq_false (by omega)]
  rfl
def hk (sh : px_Sh) (a kd : Nat) : Bool := match sh a with
  | some q => q.1 == kd
  | none => false
theorem hk_some {sh : px_Sh} {a kd : Nat} (h : hk sh a kd = true) : ∃ ln, sh a = some (kd, ln) := by
  unfold hk at h
  split at h
  next q e => exact ⟨q.2, by rw [e, ← (beq_iff_eq.mp h)]⟩
  next => cases h
theorem hk_t {sh : px_Sh} {a kd ln : Nat} (h : sh a = some (kd, ln)) : hk sh a kd = true := by unfold hk; rw [h]; exact beq_self_eq_true kd
def xk (sh : px_Sh) (a kd : Nat) (i : Int32) : Bool := match sh a with
  | some q => q.1 == kd && ix i q.2
  | none => false
theorem xk_some {sh : px_Sh} {a kd : Nat} {i : Int32} (h : xk sh a kd i = true) : ∃ ln, sh a = some (kd, ln) ∧ vp_in i ln := by
  unfold xk at h
  split at h
  next q e =>
    rw [Bool.and_eq_true] at h
    exact ⟨q.2, by rw [e, ← (beq_iff_eq.mp h.1)], ix_in h.2⟩
  next => cases h
theorem xk_t {sh : px_Sh} {a kd ln : Nat} {i : Int32} (h : sh a = some (kd, ln)) (hi : ix i ln = true) : xk sh a kd i = true := by
  unfold xk
  rw [h]
  show ((kd == kd) && ix i ln) = true
  rw [beq_self_eq_true, hi]
  rfl
def al (sh : px_Sh) (a kd : Nat) : Option Nat := match sh a with
  | some q => if q.1 = kd then some q.2 else none
  | none => none
theorem al_some {sh : px_Sh} {a kd n : Nat} (h : al sh a kd = some n) : sh a = some (kd, n) := by
  unfold al at h
  split at h
  next q e =>
    split at h
    next hq => rw [e, ← hq, ← Option.some.inj h]
    next => cases h
  next => cases h
theorem al_t {sh : px_Sh} {a kd n : Nat} (h : sh a = some (kd, n)) : al sh a kd = some n := by unfold al; rw [h]; exact if_pos rfl
def zb (x : Int32) : Bool := x == 0 || x == 1
theorem zb_n {x : Int32} (h : zb x = true) : narrow .boolean (.int x) = .int x := by
  unfold zb at h
  rw [Bool.or_eq_true, beq_iff_eq, beq_iff_eq] at h
  rcases h with rfl | rfl <;> rfl
theorem zb_f {x : Int32} (h : zb x = true) : narrow .boolean (.int x) = .int x ∧ fits .boolean (.int x) = true := by
  unfold zb at h
  rw [Bool.or_eq_true, beq_iff_eq, beq_iff_eq] at h
  rcases h with rfl | rfl <;> exact ⟨rfl, rfl⟩
def nz {α : Type} [DecidableEq α] (x z : α) : Bool := !(decide (x = z))
theorem nz_n {α : Type} [DecidableEq α] {x z : α} (h : nz x z = true) : ¬ x = z := by
  unfold nz at h
  intro q
  rw [decide_eq_true q] at h
  cases h
theorem nz_t {α : Type} [DecidableEq α] {x z : α} (h : ¬ x = z) : nz x z = true := by
  unfold nz
  rw [decide_eq_false h]
  rfl
/-- a loop: inl goes round, inr is its end -/
def lpk {α β : Type} (body : α → Option (α ⊕ β)) : Nat → α → Option β
  | 0, _ => none
  | k + 1, a => match body a with
    | none => none
    | some (.inl a') => lpk body k a'
    | some (.inr b) => some b
theorem lpk_mono {α β : Type} {body : α → Option (α ⊕ β)} : ∀ (k j : Nat) (a : α) (b : β), k ≤ j → lpk body k a = some b → lpk body j a = some b
  | 0, _, _, _, _, h => by cases h
  | k + 1, 0, _, _, hj, _ => absurd hj (by omega)
  | k + 1, j + 1, a, b, hj, h => by
    unfold lpk at h ⊢
    split at h
    next => cases h
    next a' e => exact lpk_mono k j a' b (by omega) h
    next b' e => exact h
noncomputable def lpf {α β : Type} (body : α → Option (α ⊕ β)) (a : α) : Option β := @dite (Option β) (∃ b k, lpk body k a = some b) (Classical.propDecidable _) (fun h => some h.choose) (fun _ => none)
theorem lpf_iff {α β : Type} {body : α → Option (α ⊕ β)} {a : α} {b : β} : lpf body a = some b ↔ ∃ k, lpk body k a = some b := by
  unfold lpf
  constructor
  · intro h
    split at h
    next hh =>
      have e := Option.some.inj h
      obtain ⟨k, hk⟩ := hh.choose_spec
      exact ⟨k, by rw [hk, e]⟩
    next => cases h
  · rintro ⟨k, hk⟩
    have hh : ∃ b k, lpk body k a = some b := ⟨b, k, hk⟩
    split
    next h1 =>
      obtain ⟨j, hj⟩ := h1.choose_spec
      have h2 := lpk_mono k (k + j) a b (by omega) hk
      have h3 := lpk_mono j (k + j) a _ (by omega) hj
      rw [h2] at h3
      exact h3.symm
    next h1 => exact absurd hh h1
theorem lpf_go {α β : Type} {body : α → Option (α ⊕ β)} {a a' : α} (h : body a = some (.inl a')) : lpf body a = lpf body a' := by
  apply Option.ext
  intro b
  rw [lpf_iff, lpf_iff]
  constructor
  · rintro ⟨k, hk⟩
    cases k with
    | zero => cases hk
    | succ k =>
      unfold lpk at hk
      rw [h] at hk
      exact ⟨k, hk⟩
  · rintro ⟨k, hk⟩
    refine ⟨k + 1, ?_⟩
    unfold lpk
    rw [h]
    exact hk
theorem lpf_end {α β : Type} {body : α → Option (α ⊕ β)} {a : α} {b : β} (h : body a = some (.inr b)) : lpf body a = some b := by
  rw [lpf_iff]
  refine ⟨1, ?_⟩
  unfold lpk
  rw [h]
def sE {α β : Type} (P : α → Prop) (G : β → Prop) (r : α ⊕ β) : Prop := match r with
  | .inl a => P a
  | .inr b => G b
theorem sE_l {α β : Type} {P : α → Prop} {G : β → Prop} {a : α} (h : sE P G (.inl a)) : P a := h
theorem sE_r {α β : Type} {P : α → Prop} {G : β → Prop} {b : β} (h : sE P G (.inr b)) : G b := h
theorem sE_li {α β : Type} {P : α → Prop} {G : β → Prop} {a : α} (h : P a) : sE P G (.inl a) := h
theorem sE_ri {α β : Type} {P : α → Prop} {G : β → Prop} {b : β} (h : G b) : sE P G (.inr b) := h
theorem lpf_wp {α β : Type} {body : α → Option (α ⊕ β)} {P : α → Prop} {G : β → Prop} (hs : ∀ a r, body a = some r → sE P G r → P a) {a : α} {b : β} (h : lpf body a = some b) (g : G b) : P a := by
  obtain ⟨k, hk⟩ := lpf_iff.mp h
  induction k generalizing a with
  | zero => cases hk
  | succ k ih =>
    unfold lpk at hk
    split at hk
    next => cases hk
    next a' e => exact hs a _ e (ih (lpf_iff.mpr ⟨k, hk⟩) hk)
    next b' e =>
      cases hk
      exact hs a _ e g
/-- a loop by an invariant: I k a says that a is k rounds from the end b -/
theorem lpf_inv {α β : Type} {body : α → Option (α ⊕ β)} {b : β} (I : Nat → α → Prop) (hs : ∀ k a, I k a → body a = some (.inr b) ∨ ∃ j a', j < k ∧ body a = some (.inl a') ∧ I j a') (k : Nat) (a : α) (h : I k a) : lpf body a = some b := by
  induction k using Nat.strongRecOn generalizing a with
  | ind k ih =>
    rcases hs k a h with e | ⟨j, a', hj, e, hi⟩
    · exact lpf_end e
    · rw [lpf_go e]
      exact ih j hj a' hi
theorem px_0 {P : Nat × Value → Prop} : ∀ q ∈ ([] : List (Nat × Value)), P q := fun _ h => absurd h List.not_mem_nil
theorem px_s {P : Nat × Value → Prop} {a : Nat × Value} {l : List (Nat × Value)} (h : P a) (h2 : ∀ q ∈ l, P q) : ∀ q ∈ a :: l, P q := List.forall_mem_cons.mpr ⟨h, h2⟩
theorem i_1 (x : Int32) : x + Int32.ofInt 1 = x + 1 := congrArg (x + ·) (by decide)
theorem i_2 (x : Int32) : x + Int32.ofInt 2 = x + 2 := congrArg (x + ·) (by decide)
theorem i_4 (x : Int32) : x + Int32.ofInt 4 = x + 4 := congrArg (x + ·) (by decide)
theorem i_8 (x : Int32) : x + Int32.ofInt 8 = x + 8 := congrArg (x + ·) (by decide)
theorem i_16 (x : Int32) : x + Int32.ofInt 16 = x + 16 := congrArg (x + ·) (by decide)
theorem i_6 (x : Int32) : x + Int32.ofInt 6 = x + 6 := congrArg (x + ·) (by decide)
theorem i_m1 (x : Int32) : x + Int32.ofInt (-1) = x + -1 := congrArg (x + ·) (by decide)
theorem i_m8 (x : Int32) : x + Int32.ofInt (-8) = x + -8 := congrArg (x + ·) (by decide)
theorem SR.put {sh : px_Sh} {R : px_R} (h : SR sh R) {a j : Nat} {v : Option Nat} (hr : rlay a j = none) : SR sh (px_u R a j v) := by
  refine ⟨h.1, fun k i b hb => ?_⟩
  by_cases e : k = a ∧ i = j
  · rw [e.1, e.2, hr] at hb
    cases hb
  · show (if k = a ∧ i = j then v else R k i) = some b
    rw [if_neg e]
    exact h.2 k i b hb
theorem rlay_7 (j : Nat) : rlay 7 j = none := rfl
theorem rlay_8 (j : Nat) : rlay 8 j = none := rfl
theorem rlay_15 (j : Nat) : rlay 15 j = none := rfl
theorem rlay_48 (j : Nat) : rlay 48 j = none := rfl
theorem ts_ne {x : Int32} {k : Int32} {j : Int} (h : ¬ x = k) (e : k.toInt = j) : ¬ x.toInt = j := fun q => h (Int32.toInt_inj.mp (q.trans e.symm))
def px_ps (v : Option Value) (sh : px_Sh) (M : px_M) (L : px_L) (R : px_R) (n : Nat) : px_Post := fun w sh' M' L' R' n' => (w = v ∧ sh' = sh ∧ M' = M ∧ L' = L ∧ R' = R ∧ n' = n) ∧ SR sh R
section PXL
variable {own : String} {cc : ByteArray} {mL : Nat} {rt : Option FieldType} {nm : String × List (Nat × Nat × Nat × Nat)} {d mc ms : Nat} {X : Nat × (Nat → Int32)} {QF : px_F} {pc : Nat} {lv lv' : List (Nat × Value)} {st : List Value} {sh : px_Sh} {M M1 : px_M} {L L1 : px_L} {R R1 : px_R} {n cu su : Nat}
theorem wx_sub (h : WX own cc mL rt nm d mc ms X QF pc lv' st sh M L R n cu su) (hs : ∀ q ∈ lv', px_get lv q.1 = some q.2) : WX own cc mL rt nm d mc ms X QF pc lv st sh M L R n cu su := wx_lv h (fun q hq => px_get_mem (hs q hq))
theorem wx_namM (h : ∀ M', M' = M → WX own cc mL rt nm d mc ms X QF pc lv st sh M' L R n cu su) : WX own cc mL rt nm d mc ms X QF pc lv st sh M L R n cu su := h M rfl
theorem wx_namL (h : ∀ L', L' = L → WX own cc mL rt nm d mc ms X QF pc lv st sh M L' R n cu su) : WX own cc mL rt nm d mc ms X QF pc lv st sh M L R n cu su := h L rfl
theorem wx_namR (h : ∀ R', R' = R → WX own cc mL rt nm d mc ms X QF pc lv st sh M L R' n cu su) : WX own cc mL rt nm d mc ms X QF pc lv st sh M L R n cu su := h R rfl
theorem wx_cSi {idx : Nat} {y : MethodName} {c2 : ByteArray} {mL2 d2 : Nat} {rt2 : Option FieldType} {av st0 : List Value} {r : Int32} (hd : decode cc pc = .ok (.invokestatic idx, 3)) (hl : px_ml own idx y) (hy : px_my y c2 mL2 rt2 av.length) (hst : Cond.static y ∈ px_G) (hM : MX y c2 mL2 rt2 d2 0 0 X av sh M L R n (px_pu (some (.int r)) sh M1 L1 R1 n)) (h0 : st0 = av.reverse ++ st) (hdd : d2 + 1 ≤ d) (hcat : (st.map fun v => v.category).sum ≤ 8) (hmc : cu ≤ mc) (hms : su ≤ ms) (h : WX own cc mL rt nm d mc ms X QF (pc + 3) lv (.int r :: st) sh M1 L1 R1 n cu su) : WX own cc mL rt nm d mc ms X QF pc lv st0 sh M L R n cu su := by
  refine wx_callS hd hl hy hst hM h0 hdd hcat hmc hms ?_
  rintro v sh' M' L' R' n' ⟨rfl, rfl, rfl, rfl, rfl, rfl⟩
  exact h
theorem wx_cSl {idx : Nat} {y : MethodName} {c2 : ByteArray} {mL2 d2 : Nat} {rt2 : Option FieldType} {av st0 : List Value} {r : Int64} (hd : decode cc pc = .ok (.invokestatic idx, 3)) (hl : px_ml own idx y) (hy : px_my y c2 mL2 rt2 av.length) (hst : Cond.static y ∈ px_G) (hM : MX y c2 mL2 rt2 d2 0 0 X av sh M L R n (px_pu (some (.long r)) sh M1 L1 R1 n)) (h0 : st0 = av.reverse ++ st) (hdd : d2 + 1 ≤ d) (hcat : (st.map fun v => v.category).sum ≤ 8) (hmc : cu ≤ mc) (hms : su ≤ ms) (h : WX own cc mL rt nm d mc ms X QF (pc + 3) lv (.long r :: st) sh M1 L1 R1 n cu su) : WX own cc mL rt nm d mc ms X QF pc lv st0 sh M L R n cu su := by
  refine wx_callS hd hl hy hst hM h0 hdd hcat hmc hms ?_
  rintro v sh' M' L' R' n' ⟨rfl, rfl, rfl, rfl, rfl, rfl⟩
  exact h
theorem wx_cSv {idx : Nat} {y : MethodName} {c2 : ByteArray} {mL2 d2 : Nat} {rt2 : Option FieldType} {av st0 : List Value}  (hd : decode cc pc = .ok (.invokestatic idx, 3)) (hl : px_ml own idx y) (hy : px_my y c2 mL2 rt2 av.length) (hst : Cond.static y ∈ px_G) (hM : MX y c2 mL2 rt2 d2 0 0 X av sh M L R n (px_pu none sh M1 L1 R1 n)) (h0 : st0 = av.reverse ++ st) (hdd : d2 + 1 ≤ d) (hcat : (st.map fun v => v.category).sum ≤ 8) (hmc : cu ≤ mc) (hms : su ≤ ms) (h : WX own cc mL rt nm d mc ms X QF (pc + 3) lv st sh M1 L1 R1 n cu su) : WX own cc mL rt nm d mc ms X QF pc lv st0 sh M L R n cu su := by
  refine wx_callS hd hl hy hst hM h0 hdd hcat hmc hms ?_
  rintro v sh' M' L' R' n' ⟨rfl, rfl, rfl, rfl, rfl, rfl⟩
  exact h
theorem wx_cSr {idx : Nat} {y : MethodName} {c2 : ByteArray} {mL2 d2 : Nat} {rt2 : Option FieldType} {av st0 : List Value} {r : Nat} (hd : decode cc pc = .ok (.invokestatic idx, 3)) (hl : px_ml own idx y) (hy : px_my y c2 mL2 rt2 av.length) (hst : Cond.static y ∈ px_G) (hM : MX y c2 mL2 rt2 d2 0 0 X av sh M L R n (px_pu (some (.ref r)) sh M1 L1 R1 n)) (h0 : st0 = av.reverse ++ st) (hdd : d2 + 1 ≤ d) (hcat : (st.map fun v => v.category).sum ≤ 8) (hmc : cu ≤ mc) (hms : su ≤ ms) (h : WX own cc mL rt nm d mc ms X QF (pc + 3) lv (.ref r :: st) sh M1 L1 R1 n cu su) : WX own cc mL rt nm d mc ms X QF pc lv st0 sh M L R n cu su := by
  refine wx_callS hd hl hy hst hM h0 hdd hcat hmc hms ?_
  rintro v sh' M' L' R' n' ⟨rfl, rfl, rfl, rfl, rfl, rfl⟩
  exact h
theorem wx_cVi {idx a kd ln : Nat} {y : MethodName} {c2 : ByteArray} {mL2 d2 : Nat} {rt2 : Option FieldType} {av st0 : List Value} {r : Int32} (hd : decode cc pc = .ok (.invokevirtual idx, 3)) (hl : px_ml own idx y) (hy : px_my y c2 mL2 rt2 av.length) (hst : Cond.instanceMethod y ∈ px_G ∧ Cond.selects (px_RC kd) y y ∈ px_G) (hs : sh a = some (kd, ln)) (h13 : kd < 13) (hM : MX y c2 mL2 rt2 d2 0 0 X (.ref a :: av) sh M L R n (px_pu (some (.int r)) sh M1 L1 R1 n)) (h0 : st0 = av.reverse ++ .ref a :: st) (hdd : d2 + 1 ≤ d) (hcat : (st.map fun v => v.category).sum ≤ 8) (hmc : cu ≤ mc) (hms : su ≤ ms) (h : WX own cc mL rt nm d mc ms X QF (pc + 3) lv (.int r :: st) sh M1 L1 R1 n cu su) : WX own cc mL rt nm d mc ms X QF pc lv st0 sh M L R n cu su := by
  refine wx_callV hd hl hy hst hs h13 hM h0 hdd hcat hmc hms ?_
  rintro v sh' M' L' R' n' ⟨rfl, rfl, rfl, rfl, rfl, rfl⟩
  exact h
theorem wx_cVl {idx a kd ln : Nat} {y : MethodName} {c2 : ByteArray} {mL2 d2 : Nat} {rt2 : Option FieldType} {av st0 : List Value} {r : Int64} (hd : decode cc pc = .ok (.invokevirtual idx, 3)) (hl : px_ml own idx y) (hy : px_my y c2 mL2 rt2 av.length) (hst : Cond.instanceMethod y ∈ px_G ∧ Cond.selects (px_RC kd) y y ∈ px_G) (hs : sh a = some (kd, ln)) (h13 : kd < 13) (hM : MX y c2 mL2 rt2 d2 0 0 X (.ref a :: av) sh M L R n (px_pu (some (.long r)) sh M1 L1 R1 n)) (h0 : st0 = av.reverse ++ .ref a :: st) (hdd : d2 + 1 ≤ d) (hcat : (st.map fun v => v.category).sum ≤ 8) (hmc : cu ≤ mc) (hms : su ≤ ms) (h : WX own cc mL rt nm d mc ms X QF (pc + 3) lv (.long r :: st) sh M1 L1 R1 n cu su) : WX own cc mL rt nm d mc ms X QF pc lv st0 sh M L R n cu su := by
  refine wx_callV hd hl hy hst hs h13 hM h0 hdd hcat hmc hms ?_
  rintro v sh' M' L' R' n' ⟨rfl, rfl, rfl, rfl, rfl, rfl⟩
  exact h
theorem wx_cVv {idx a kd ln : Nat} {y : MethodName} {c2 : ByteArray} {mL2 d2 : Nat} {rt2 : Option FieldType} {av st0 : List Value}  (hd : decode cc pc = .ok (.invokevirtual idx, 3)) (hl : px_ml own idx y) (hy : px_my y c2 mL2 rt2 av.length) (hst : Cond.instanceMethod y ∈ px_G ∧ Cond.selects (px_RC kd) y y ∈ px_G) (hs : sh a = some (kd, ln)) (h13 : kd < 13) (hM : MX y c2 mL2 rt2 d2 0 0 X (.ref a :: av) sh M L R n (px_pu none sh M1 L1 R1 n)) (h0 : st0 = av.reverse ++ .ref a :: st) (hdd : d2 + 1 ≤ d) (hcat : (st.map fun v => v.category).sum ≤ 8) (hmc : cu ≤ mc) (hms : su ≤ ms) (h : WX own cc mL rt nm d mc ms X QF (pc + 3) lv st sh M1 L1 R1 n cu su) : WX own cc mL rt nm d mc ms X QF pc lv st0 sh M L R n cu su := by
  refine wx_callV hd hl hy hst hs h13 hM h0 hdd hcat hmc hms ?_
  rintro v sh' M' L' R' n' ⟨rfl, rfl, rfl, rfl, rfl, rfl⟩
  exact h
theorem wx_cVr {idx a kd ln : Nat} {y : MethodName} {c2 : ByteArray} {mL2 d2 : Nat} {rt2 : Option FieldType} {av st0 : List Value} {r : Nat} (hd : decode cc pc = .ok (.invokevirtual idx, 3)) (hl : px_ml own idx y) (hy : px_my y c2 mL2 rt2 av.length) (hst : Cond.instanceMethod y ∈ px_G ∧ Cond.selects (px_RC kd) y y ∈ px_G) (hs : sh a = some (kd, ln)) (h13 : kd < 13) (hM : MX y c2 mL2 rt2 d2 0 0 X (.ref a :: av) sh M L R n (px_pu (some (.ref r)) sh M1 L1 R1 n)) (h0 : st0 = av.reverse ++ .ref a :: st) (hdd : d2 + 1 ≤ d) (hcat : (st.map fun v => v.category).sum ≤ 8) (hmc : cu ≤ mc) (hms : su ≤ ms) (h : WX own cc mL rt nm d mc ms X QF (pc + 3) lv (.ref r :: st) sh M1 L1 R1 n cu su) : WX own cc mL rt nm d mc ms X QF pc lv st0 sh M L R n cu su := by
  refine wx_callV hd hl hy hst hs h13 hM h0 hdd hcat hmc hms ?_
  rintro v sh' M' L' R' n' ⟨rfl, rfl, rfl, rfl, rfl, rfl⟩
  exact h
theorem wx_cViS {idx a kd ln : Nat} {y : MethodName} {c2 : ByteArray} {mL2 d2 : Nat} {rt2 : Option FieldType} {av st0 : List Value} {r : Int32} (hd : decode cc pc = .ok (.invokevirtual idx, 3)) (hl : px_ml own idx y) (hy : px_my y c2 mL2 rt2 av.length) (hst : Cond.instanceMethod y ∈ px_G ∧ Cond.selects (px_RC kd) y y ∈ px_G) (hs : sh a = some (kd, ln)) (h13 : kd < 13) (hM : MX y c2 mL2 rt2 d2 0 0 X (.ref a :: av) sh M L R n (px_ps (some (.int r)) sh M1 L1 R1 n)) (h0 : st0 = av.reverse ++ .ref a :: st) (hdd : d2 + 1 ≤ d) (hcat : (st.map fun v => v.category).sum ≤ 8) (hmc : cu ≤ mc) (hms : su ≤ ms) (h : SR sh R1 → WX own cc mL rt nm d mc ms X QF (pc + 3) lv (.int r :: st) sh M1 L1 R1 n cu su) : WX own cc mL rt nm d mc ms X QF pc lv st0 sh M L R n cu su := by
  refine wx_callV hd hl hy hst hs h13 hM h0 hdd hcat hmc hms ?_
  rintro v sh' M' L' R' n' ⟨⟨rfl, rfl, rfl, rfl, rfl, rfl⟩, q⟩
  exact h q
theorem wx_cVvS {idx a kd ln : Nat} {y : MethodName} {c2 : ByteArray} {mL2 d2 : Nat} {rt2 : Option FieldType} {av st0 : List Value}  (hd : decode cc pc = .ok (.invokevirtual idx, 3)) (hl : px_ml own idx y) (hy : px_my y c2 mL2 rt2 av.length) (hst : Cond.instanceMethod y ∈ px_G ∧ Cond.selects (px_RC kd) y y ∈ px_G) (hs : sh a = some (kd, ln)) (h13 : kd < 13) (hM : MX y c2 mL2 rt2 d2 0 0 X (.ref a :: av) sh M L R n (px_ps none sh M1 L1 R1 n)) (h0 : st0 = av.reverse ++ .ref a :: st) (hdd : d2 + 1 ≤ d) (hcat : (st.map fun v => v.category).sum ≤ 8) (hmc : cu ≤ mc) (hms : su ≤ ms) (h : SR sh R1 → WX own cc mL rt nm d mc ms X QF (pc + 3) lv st sh M1 L1 R1 n cu su) : WX own cc mL rt nm d mc ms X QF pc lv st0 sh M L R n cu su := by
  refine wx_callV hd hl hy hst hs h13 hM h0 hdd hcat hmc hms ?_
  rintro v sh' M' L' R' n' ⟨⟨rfl, rfl, rfl, rfl, rfl, rfl⟩, q⟩
  exact h q
theorem wx_ts {dflt lo hi : Int} {offs : Array Int} {len : Nat} {x k : Int32} {off : Int} {tgt : Nat} (hd : decode cc pc = .ok (.tableswitch dflt lo hi offs, len)) (hx : x = k) (h1 : ¬ k.toInt < lo) (h2 : ¬ hi < k.toInt) (ho : offs[(k.toInt - lo).toNat]? = some off) (ht : (pc : Int) + off = (tgt : Int)) (h : WX own cc mL rt nm d mc ms X QF tgt lv st sh M L R n cu su) : WX own cc mL rt nm d mc ms X QF pc lv (.int x :: st) sh M L R n cu su := wx_tsIn hd (by rw [hx]; exact h1) (by rw [hx]; exact h2) (by rw [hx]; exact ho) ht h
theorem wx_lsk {dflt off : Int} {ps : Array (Int × Int)} {len : Nat} {x k : Int32} {tgt : Nat} (hd : decode cc pc = .ok (.lookupswitch dflt ps, len)) (hp : (ps.toList.zip (ps.toList.drop 1)).all (fun (a, next) => a.1 < next.1) = true) (hx : x = k) (ho : Op.lookupswitch.offset ps.toList dflt k.toInt = off) (ht : (pc : Int) + off = (tgt : Int)) (h : WX own cc mL rt nm d mc ms X QF tgt lv st sh M L R n cu su) : WX own cc mL rt nm d mc ms X QF pc lv (.int x :: st) sh M L R n cu su := wx_ls hd hp (by rw [hx]; exact ho) ht h
end PXL
