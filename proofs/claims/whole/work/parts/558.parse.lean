/-! what a text of rules means: the place behind, the code, the value -/
abbrev Vl := (Nat → Int32) → Int32
abbrev Res := (Nat × List Int32 × Vl) ⊕ (Nat × Nat)
def rb (r : Res) (f : Nat → List Int32 → Vl → Res) : Res := match r with
  | .inl t => f t.1 t.2.1 t.2.2
  | .inr e => .inr e
section PARSE
variable (tx : Nat → Nat) (n : Nat)
noncomputable def pUnit (rc : Option (Nat → Res)) (p : Nat) : Res :=
  if kd tx n p = 317 then (if nv tx n p ≤ 9999 then .inl (tk tx n p, [nI (nv tx n p)], fun _ => nI (nv tx n p)) else .inr (2, p))
  else if 307 ≤ kd tx n p ∧ kd tx n p ≤ 313 then .inl (tk tx n p, [-(nI (kd tx n p))], fun vals => vals (kd tx n p - 307))
  else if kd tx n p = 40 then (match rc with
    | none => .inr (3, p)
    | some P => rb (P (tk tx n p)) fun q c v => if kd tx n q = 41 then .inl (tk tx n q, c, v) else .inr (1, q))
  else if kd tx n p = 314 ∨ kd tx n p = 315 then (if kd tx n (tk tx n p) = 40 then (match rc with
    | none => .inr (3, tk tx n p)
    | some P => rb (P (tk tx n (tk tx n p))) fun q c v => if kd tx n q = 44 then (rb (P (tk tx n q)) fun q2 c2 v2 => if kd tx n q2 = 41 then .inl (tk tx n q2, c ++ c2 ++ [-(nI (kd tx n p))], fun vals => wk (nI (kd tx n p)) (v vals) (v2 vals)) else .inr (1, q2)) else .inr (1, q)) else .inr (1, tk tx n p))
  else .inr (1, p)
noncomputable def pLp (one : Nat → Res) (op : Nat → Bool) : Nat → Nat → List Int32 → Vl → Res
  | 0, p, c, v => .inl (p, c, v)
  | f + 1, p, c, v => if op (kd tx n p) = true then (rb (one (tk tx n p)) fun q c2 v2 => pLp one op f q (c ++ c2 ++ [-(nI (kd tx n p))]) (fun vals => wk (nI (kd tx n p)) (v vals) (v2 vals))) else .inl (p, c, v)
def isMul (k : Nat) : Bool := k == 42 || k == 47
def isAdd (k : Nat) : Bool := k == 43 || k == 45
def isAnd (k : Nat) : Bool := k == 305
def isOr (k : Nat) : Bool := k == 304
noncomputable def pLo (one : Nat → Res) (op : Nat → Bool) (p : Nat) : Res := rb (one p) fun q c v => pLp tx n one op 301 q c v
noncomputable def pProd (rc : Option (Nat → Res)) (p : Nat) : Res := pLo tx n (pUnit tx n rc) isMul p
noncomputable def pSum (rc : Option (Nat → Res)) (p : Nat) : Res := pLo tx n (pProd tx n rc) isAdd p
noncomputable def pS : Nat → Nat → Res
  | 0 => pSum tx n none
  | g + 1 => pSum tx n (some (pS g))
noncomputable def rcS : Nat → Option (Nat → Res)
  | 0 => none
  | g + 1 => some (pS tx n g)
noncomputable def pBoth (one : Nat → Res) (p : Nat) : Res := pLo tx n one isAnd p
noncomputable def pChoice (one : Nat → Res) (p : Nat) : Res := pLo tx n (pBoth tx n one) isOr p
noncomputable def pTest (rc : Option (Nat → Res)) (su : Nat → Res) (p : Nat) : Res :=
  if kd tx n p = 306 then (match rc with
    | none => .inr (3, p)
    | some P => rb (P (tk tx n p)) fun q c v => .inl (q, c ++ [-(nI 306)], fun vals => 1 - v vals))
  else if kd tx n p = 91 then (match rc with
    | none => .inr (3, p)
    | some P => rb (pChoice tx n P (tk tx n p)) fun q c v => if kd tx n q = 93 then .inl (tk tx n q, c, v) else .inr (1, q))
  else rb (su p) fun q c v => if kd tx n q = 60 ∨ kd tx n q = 62 ∨ kd tx n q = 61 then (rb (su (tk tx n q)) fun q2 c2 v2 => .inl (q2, c ++ c2 ++ [-(nI (kd tx n q))], fun vals => wk (nI (kd tx n q)) (v vals) (v2 vals))) else .inr (1, q)
noncomputable def pT : Nat → Nat → Res
  | 0 => pTest tx n none (pS tx n 0)
  | g + 1 => pTest tx n (some (pT g)) (pS tx n (g + 1))
noncomputable def rcT : Nat → Option (Nat → Res)
  | 0 => none
  | g + 1 => some (pT tx n g)
theorem pS_rc (g : Nat) : pS tx n g = pSum tx n (rcS tx n g) := by cases g <;> rfl
theorem pT_rc (g : Nat) : pT tx n g = pTest tx n (rcT tx n g) (pS tx n g) := by cases g <;> rfl
end PARSE
/-! its code, worked on a stack, leaves its value -/
theorem neg_nI {v : Nat} (hv : v < 2 ^ 31) : (-(nI v)).toInt = -(v : Int) := by
  rw [Int32.toInt_neg, nI_toInt hv]
  show (if (-(v : Int)) % (4294967296 : Int) < (4294967296 + 1) / 2 then (-(v : Int)) % 4294967296 else (-(v : Int)) % 4294967296 - 4294967296) = _
  split <;> omega
theorem tok_num {v : Nat} (hv : v < 2 ^ 31) (vals : Nat → Int32) {S : List Int32} (h : S.length < 32) : tok vals (nI v) S = S ++ [nI v] := by
  unfold tok
  rw [if_neg (fun z => by
    have := Int32.lt_iff_toInt_lt.mp z
    rw [neg_nI hv] at this
    have e : (0 : Int32).toInt = 0 := rfl
    omega), if_neg (by omega)]
theorem kv_t : ∀ k, k < 319 → ((0 ≤ nI k - 307 ∧ nI k - 307 ≤ 6) ↔ (307 ≤ k ∧ k ≤ 313)) ∧ (0 < k → 0 < nI k) ∧ (nI k = 306 ↔ k = 306) ∧ (307 ≤ k → (nI k - 307).toNatClampNeg = k - 307) := by decide +kernel
theorem tok_val {k : Nat} (h1 : 307 ≤ k) (h2 : k ≤ 313) (vals : Nat → Int32) {S : List Int32} (h : S.length < 32) : tok vals (-(nI k)) S = S ++ [vals (k - 307)] := by
  obtain ⟨t1, t2, t3, t4⟩ := kv_t k (by omega)
  unfold tok
  rw [Int32.neg_neg, if_pos (t2 (by omega)), if_pos (t1.mpr ⟨h1, h2⟩), if_neg (by omega), t4 h1]
theorem tok_not (vals : Nat → Int32) (S : List Int32) (x : Int32) : tok vals (-(nI 306)) (S ++ [x]) = S ++ [1 - x] := by
  obtain ⟨t1, t2, t3, t4⟩ := kv_t 306 (by omega)
  unfold tok
  rw [Int32.neg_neg, if_pos (t2 (by omega)), if_neg (fun z => absurd (t1.mp z) (by omega)), if_neg (by simp), if_pos (t3.mpr rfl)]
  simp
theorem tok_op {k : Nat} (h0 : 0 < k) (hk : k < 319) (h1 : ¬ (307 ≤ k ∧ k ≤ 313)) (h2 : k ≠ 306) (vals : Nat → Int32) (S : List Int32) (x y : Int32) : tok vals (-(nI k)) (S ++ [x] ++ [y]) = S ++ [wk (nI k) x y] := by
  obtain ⟨t1, t2, t3, t4⟩ := kv_t k hk
  have l1 : (S ++ [x] ++ [y]).length = S.length + 2 := by simp
  have g1 : (S ++ [x] ++ [y]).getD (S.length + 2 - 1) 0 = y := by simp
  have g2 : (S ++ [x] ++ [y]).getD (S.length + 2 - 2) 0 = x := by simp
  have tk1 : (S ++ [x] ++ [y]).take (S.length + 2 - 1) = S ++ [x] := by
    rw [show S.length + 2 - 1 = (S ++ [x]).length by simp]
    exact List.take_left
  unfold tok
  rw [Int32.neg_neg, if_pos (t2 h0), if_neg (fun z => h1 (t1.mp z)), l1, if_neg (by omega), if_neg (fun z => h2 (t3.mp z)), if_neg (by omega), g1, g2, tk1, show S.length + 2 - 2 = S.length by omega]
  simp
noncomputable def rnC (vals : Nat → Int32) (c S : List Int32) : List Int32 := c.foldl (fun S t => tok vals t S) S
theorem rnC_app (vals : Nat → Int32) (c d S : List Int32) : rnC vals (c ++ d) S = rnC vals d (rnC vals c S) := List.foldl_append
theorem rnC_1 (vals : Nat → Int32) (t : Int32) (S : List Int32) : rnC vals [t] S = tok vals t S := rfl
def GdR (n h p : Nat) (r : Res) : Prop := match r with
  | .inl t => p + t.2.1.length ≤ t.1 ∧ t.1 ≤ n ∧ ∀ vals S, S.length + h ≤ 32 → rnC vals t.2.1 S = S ++ [t.2.2 vals]
  | .inr e => (e.1 = 1 ∨ e.1 = 2 ∨ e.1 = 3) ∧ e.2 ≤ n
def BvR (r : Res) : Prop := match r with
  | .inl t => ∀ vals, t.2.2 vals = 0 ∨ t.2.2 vals = 1
  | .inr _ => True
theorem GdR.up {n h h' p p' : Nat} {r : Res} (hr : GdR n h p r) (hh : h ≤ h') (hp : p' ≤ p) : GdR n h' p' r := by
  match r, hr with
  | .inl t, hr => exact ⟨by have := hr.1; omega, hr.2.1, fun vals S hS => hr.2.2 vals S (by omega)⟩
  | .inr e, hr => exact hr
theorem GdR.e {n h p c q : Nat} (hc : c = 1 ∨ c = 2 ∨ c = 3) (hq : q ≤ n) : GdR n h p (.inr (c, q)) := ⟨hc, hq⟩
theorem GdR.b {n h h2 p p0 : Nat} {r : Res} {f : Nat → List Int32 → Vl → Res} (hr : GdR n h p r) (hf : ∀ q c v, p + c.length ≤ q → q ≤ n → (∀ vals S, S.length + h ≤ 32 → rnC vals c S = S ++ [v vals]) → GdR n h2 p0 (f q c v)) : GdR n h2 p0 (rb r f) := by
  match r, hr with
  | .inl t, hr => exact hf t.1 t.2.1 t.2.2 hr.1 hr.2.1 hr.2.2
  | .inr e, hr => exact hr
section GOOD
variable {tx : Nat → Nat} {n : Nat}
theorem kd_n (ht : ∀ i, i < n → tx i < 256) {p : Nat} (h : kd tx n p < 318) : p < n := by
  by_cases e : n ≤ p
  · rw [kd_o e] at h; omega
  · omega
theorem GdU (ht : ∀ i, i < n → tx i < 256) {h : Nat} {rc : Option (Nat → Res)} (hrc : ∀ P, rc = some P → ∀ p, p ≤ n → GdR n h p (P p)) {p : Nat} (hp : p ≤ n) : GdR n (h + 1) p (pUnit tx n rc p) := by
  unfold pUnit
  by_cases c1 : kd tx n p = 317
  · have hp1 := kd_n ht (show kd tx n p < 318 by omega)
    rw [if_pos c1]
    by_cases c2 : nv tx n p ≤ 9999
    · rw [if_pos c2]
      refine ⟨?_, tk_le hp, fun vals S hS => ?_⟩
      · have := tk_gt (tx := tx) hp1
        simp; omega
      · show tok vals _ S = _
        exact tok_num (by omega) vals (by omega)
    · rw [if_neg c2]
      exact GdR.e (by omega) hp
  · rw [if_neg c1]
    by_cases c3 : 307 ≤ kd tx n p ∧ kd tx n p ≤ 313
    · have hp1 := kd_n ht (show kd tx n p < 318 by omega)
      rw [if_pos c3]
      refine ⟨?_, tk_le hp, fun vals S hS => ?_⟩
      · have := tk_gt (tx := tx) hp1
        simp; omega
      · show tok vals _ S = _
        exact tok_val c3.1 c3.2 vals (by omega)
    · rw [if_neg c3]
      by_cases c4 : kd tx n p = 40
      · have hp1 := kd_n ht (show kd tx n p < 318 by omega)
        have hk1 := tk_gt (tx := tx) hp1
        have hk2 := tk_le (tx := tx) hp
        rw [if_pos c4]
        match rc, hrc with
        | none, _ => exact GdR.e (by omega) hp
        | some P, hrc =>
          refine (hrc P rfl _ (tk_le hp)).b fun q c v hq hqn hv => ?_
          by_cases c5 : kd tx n q = 41
          · rw [if_pos c5]
            have := tk_ge (tx := tx) (n := n) q
            exact ⟨by show p + c.length ≤ tk tx n q; omega, tk_le hqn, fun vals S hS => hv vals S (by omega)⟩
          · rw [if_neg c5]
            exact GdR.e (by omega) hqn
      · rw [if_neg c4]
        by_cases c6 : kd tx n p = 314 ∨ kd tx n p = 315
        · have hp1 := kd_n ht (show kd tx n p < 318 by omega)
          have hk1 := tk_gt (tx := tx) hp1
          have hk2 := tk_le (tx := tx) hp
          rw [if_pos c6]
          by_cases c7 : kd tx n (tk tx n p) = 40
          · rw [if_pos c7]
            match rc, hrc with
            | none, _ => exact GdR.e (by omega) hk2
            | some P, hrc =>
              refine (hrc P rfl _ (tk_le hk2)).b fun q c v hq hqn hv => ?_
              have hk3 := tk_ge (tx := tx) (n := n) (tk tx n p)
              by_cases c8 : kd tx n q = 44
              · rw [if_pos c8]
                refine (hrc P rfl _ (tk_le hqn)).b fun q2 c2 v2 hq2 hqn2 hv2 => ?_
                have hk4 := tk_ge (tx := tx) (n := n) q
                by_cases c9 : kd tx n q2 = 41
                · rw [if_pos c9]
                  have hk5 := tk_ge (tx := tx) (n := n) q2
                  refine ⟨?_, tk_le hqn2, fun vals S hS => ?_⟩
                  · show p + (c ++ c2 ++ [-(nI (kd tx n p))]).length ≤ tk tx n q2
                    simp only [List.length_append, List.length_singleton]
                    omega
                  · show rnC vals (c ++ c2 ++ [-(nI (kd tx n p))]) S = S ++ [wk (nI (kd tx n p)) (v vals) (v2 vals)]
                    rw [rnC_app, rnC_app, hv vals S (by omega), hv2 vals _ (by simp; omega), rnC_1, tok_op (by omega) (by omega) (by omega) (by omega)]
                · rw [if_neg c9]
                  exact GdR.e (by omega) hqn2
              · rw [if_neg c8]
                exact GdR.e (by omega) hqn
          · rw [if_neg c7]
            exact GdR.e (by omega) hk2
        · rw [if_neg c6]
          exact GdR.e (by omega) hp
theorem GdLp (ht : ∀ i, i < n → tx i < 256) {h p0 : Nat} {one : Nat → Res} {op : Nat → Bool} (hop : ∀ k, op k = true → 0 < k ∧ k < 306) (h1 : ∀ p, p ≤ n → GdR n h p (one p)) : ∀ (f p : Nat) (c : List Int32) (v : Vl), p ≤ n → p0 + c.length ≤ p → (∀ vals S, S.length + (h + 1) ≤ 32 → rnC vals c S = S ++ [v vals]) → GdR n (h + 1) p0 (pLp tx n one op f p c v)
  | 0, p, c, v, hp, hc, hv => ⟨hc, hp, hv⟩
  | f + 1, p, c, v, hp, hc, hv => by
    unfold pLp
    by_cases e : op (kd tx n p) = true
    · rw [if_pos e]
      obtain ⟨k0, k1⟩ := hop _ e
      have hp1 := kd_n ht (show kd tx n p < 318 by omega)
      have hk1 := tk_gt (tx := tx) hp1
      refine (h1 _ (tk_le hp)).b fun q c2 v2 hq hqn hv2 => ?_
      refine GdLp ht hop h1 f q _ _ hqn ?_ fun vals S hS => ?_
      · simp only [List.length_append, List.length_singleton]
        omega
      · rw [rnC_app, rnC_app, hv vals S hS, hv2 vals _ (by simp; omega), rnC_1, tok_op k0 (by omega) (by omega) (by omega)]
    · rw [if_neg e]
      exact ⟨hc, hp, hv⟩
theorem GdLo (ht : ∀ i, i < n → tx i < 256) {h : Nat} {one : Nat → Res} {op : Nat → Bool} (hop : ∀ k, op k = true → 0 < k ∧ k < 306) (h1 : ∀ p, p ≤ n → GdR n h p (one p)) {p : Nat} (hp : p ≤ n) : GdR n (h + 1) p (pLo tx n one op p) := by
  unfold pLo
  refine (h1 p hp).b fun q c v hq hqn hv => ?_
  exact GdLp ht hop h1 301 q c v hqn hq fun vals S hS => hv vals S (by omega)
theorem op_mul : ∀ k, isMul k = true → 0 < k ∧ k < 306 := by
  intro k h
  unfold isMul at h
  simp at h
  omega
theorem op_add : ∀ k, isAdd k = true → 0 < k ∧ k < 306 := by
  intro k h
  unfold isAdd at h
  simp at h
  omega
theorem op_and : ∀ k, isAnd k = true → 0 < k ∧ k < 306 := by
  intro k h
  unfold isAnd at h
  simp at h
  omega
theorem op_or : ∀ k, isOr k = true → 0 < k ∧ k < 306 := by
  intro k h
  unfold isOr at h
  simp at h
  omega
theorem GdP (ht : ∀ i, i < n → tx i < 256) {h : Nat} {rc : Option (Nat → Res)} (hrc : ∀ P, rc = some P → ∀ p, p ≤ n → GdR n h p (P p)) {p : Nat} (hp : p ≤ n) : GdR n (h + 2) p (pProd tx n rc p) := GdLo ht op_mul (fun _ hq => GdU ht hrc hq) hp
theorem GdS (ht : ∀ i, i < n → tx i < 256) {h : Nat} {rc : Option (Nat → Res)} (hrc : ∀ P, rc = some P → ∀ p, p ≤ n → GdR n h p (P p)) {p : Nat} (hp : p ≤ n) : GdR n (h + 3) p (pSum tx n rc p) := GdLo ht op_add (fun _ hq => GdP ht hrc hq) hp
theorem GdpS (ht : ∀ i, i < n → tx i < 256) : ∀ (g : Nat) {p : Nat}, p ≤ n → GdR n (3 * g + 3) p (pS tx n g p)
  | 0, p, hp => GdS ht (h := 0) (rc := none) (fun P h => absurd h (by simp)) hp
  | g + 1, p, hp => GdS ht (h := 3 * g + 3) (rc := some (pS tx n g)) (fun P h p hp => by
      obtain rfl : pS tx n g = P := Option.some.inj h
      exact GdpS ht g hp) hp
theorem Gd_rcS (ht : ∀ i, i < n → tx i < 256) (g : Nat) : ∀ P, rcS tx n g = some P → ∀ p, p ≤ n → GdR n (3 * g) p (P p) := by
  intro P h p hp
  cases g with
  | zero => exact absurd h (by simp [rcS])
  | succ g =>
    obtain rfl : pS tx n g = P := Option.some.inj h
    exact (GdpS ht g hp).up (by omega) (Nat.le_refl _)
theorem GdTs (ht : ∀ i, i < n → tx i < 256) {h : Nat} {rc : Option (Nat → Res)} {su : Nat → Res} (hrc : ∀ P, rc = some P → ∀ p, p ≤ n → GdR n (h + 1) p (P p)) (hsu : ∀ p, p ≤ n → GdR n (h + 3) p (su p)) {p : Nat} (hp : p ≤ n) : GdR n (h + 4) p (pTest tx n rc su p) := by
  unfold pTest
  by_cases c1 : kd tx n p = 306
  · have hp1 := kd_n ht (show kd tx n p < 318 by omega)
    have hk1 := tk_gt (tx := tx) hp1
    rw [if_pos c1]
    match rc, hrc with
    | none, _ => exact GdR.e (by omega) hp
    | some P, hrc =>
      refine (hrc P rfl _ (tk_le hp)).b fun q c v hq hqn hv => ?_
      refine ⟨?_, hqn, fun vals S hS => ?_⟩
      · show p + (c ++ [-(nI 306)]).length ≤ q
        simp only [List.length_append, List.length_singleton]
        omega
      · show rnC vals (c ++ [-(nI 306)]) S = S ++ [1 - v vals]
        rw [rnC_app, hv vals S (by omega), rnC_1, tok_not]
  · rw [if_neg c1]
    by_cases c2 : kd tx n p = 91
    · have hp1 := kd_n ht (show kd tx n p < 318 by omega)
      have hk1 := tk_gt (tx := tx) hp1
      rw [if_pos c2]
      match rc, hrc with
      | none, _ => exact GdR.e (by omega) hp
      | some P, hrc =>
        refine (GdLo ht op_or (h := h + 2) (fun p hp => GdLo ht op_and (hrc P rfl) hp) (tk_le hp)).b fun q c v hq hqn hv => ?_
        by_cases c3 : kd tx n q = 93
        · rw [if_pos c3]
          have := tk_ge (tx := tx) (n := n) q
          exact ⟨by show p + c.length ≤ tk tx n q; omega, tk_le hqn, fun vals S hS => hv vals S (by omega)⟩
        · rw [if_neg c3]
          exact GdR.e (by omega) hqn
    · rw [if_neg c2]
      refine (hsu p hp).b fun q c v hq hqn hv => ?_
      by_cases c4 : kd tx n q = 60 ∨ kd tx n q = 62 ∨ kd tx n q = 61
      · have hp1 := kd_n ht (show kd tx n q < 318 by omega)
        have hk1 := tk_gt (tx := tx) hp1
        rw [if_pos c4]
        refine (hsu _ (tk_le hqn)).b fun q2 c2 v2 hq2 hqn2 hv2 => ?_
        refine ⟨?_, hqn2, fun vals S hS => ?_⟩
        · show p + (c ++ c2 ++ [-(nI (kd tx n q))]).length ≤ q2
          simp only [List.length_append, List.length_singleton]
          omega
        · show rnC vals (c ++ c2 ++ [-(nI (kd tx n q))]) S = S ++ [wk (nI (kd tx n q)) (v vals) (v2 vals)]
          rw [rnC_app, rnC_app, hv vals S (by omega), hv2 vals _ (by simp; omega), rnC_1, tok_op (by omega) (by omega) (by omega) (by omega)]
      · rw [if_neg c4]
        exact GdR.e (by omega) hqn
theorem GdpT (ht : ∀ i, i < n → tx i < 256) : ∀ (g : Nat) {p : Nat}, p ≤ n → GdR n (3 * g + 4) p (pT tx n g p)
  | 0, p, hp => GdTs ht (h := 0) (rc := none) (fun P h => absurd h (by simp)) (fun p hp => GdpS ht 0 hp) hp
  | g + 1, p, hp => GdTs ht (h := 3 * (g + 1)) (rc := some (pT tx n g)) (fun P h p hp => by
      obtain rfl : pT tx n g = P := Option.some.inj h
      exact GdpT ht g hp) (fun p hp => GdpS ht (g + 1) hp) hp
theorem GdpB (ht : ∀ i, i < n → tx i < 256) (g : Nat) {p : Nat} (hp : p ≤ n) : GdR n (3 * g + 5) p (pBoth tx n (pT tx n g) p) := GdLo ht op_and (fun _ h => GdpT ht g h) hp
theorem GdpC (ht : ∀ i, i < n → tx i < 256) (g : Nat) {p : Nat} (hp : p ≤ n) : GdR n (3 * g + 6) p (pChoice tx n (pT tx n g) p) := GdLo ht op_or (fun _ h => GdpB ht g h) hp
/-! tests are 0 or 1 -/
theorem BvR.b {r : Res} {f : Nat → List Int32 → Vl → Res} (hr : BvR r) (hf : ∀ q c v, (∀ vals, v vals = 0 ∨ v vals = 1) → BvR (f q c v)) : BvR (rb r f) := by
  match r, hr with
  | .inl t, hr => exact hf t.1 t.2.1 t.2.2 hr
  | .inr e, hr => exact trivial
theorem BvR.b' {r : Res} {f : Nat → List Int32 → Vl → Res} (hf : ∀ q c v, BvR (f q c v)) : BvR (rb r f) := by
  match r with
  | .inl t => exact hf t.1 t.2.1 t.2.2
  | .inr e => exact trivial
theorem wk_mul (x y : Int32) : wk (nI 42) x y = x * y := rfl
theorem wk_add (x y : Int32) : wk (nI 43) x y = x + y := rfl
theorem wk_sub (x y : Int32) : wk (nI 45) x y = x - y := rfl
theorem wk_div (x y : Int32) : wk (nI 47) x y = if y = 0 then 0 else x / y := by
  unfold wk f_X7_work f_X7_work_115
  rw [if_neg (by decide), if_neg (by decide), if_neg (by decide), if_pos (by decide)]
  by_cases h : y = 0
  · rw [if_pos h, if_pos h]; rfl
  · rw [if_neg h, if_neg h, ok_t (nz_t h)]; rfl
theorem wk_lt (x y : Int32) : wk (nI 60) x y = if y ≤ x then 0 else 1 := by
  unfold wk f_X7_work f_X7_work_126
  rw [if_neg (by decide), if_neg (by decide), if_neg (by decide), if_neg (by decide), if_pos (by decide)]
  split <;> rfl
theorem wk_eq (x y : Int32) : wk (nI 61) x y = if x = y then 1 else 0 := by
  unfold wk f_X7_work f_X7_work_148
  rw [if_neg (by decide), if_neg (by decide), if_neg (by decide), if_neg (by decide), if_neg (by decide), if_pos (by decide)]
  split <;> rfl
theorem wk_gt (x y : Int32) : wk (nI 62) x y = if x ≤ y then 0 else 1 := by
  unfold wk f_X7_work f_X7_work_137
  rw [if_neg (by decide), if_neg (by decide), if_neg (by decide), if_neg (by decide), if_neg (by decide), if_neg (by decide), if_pos (by decide)]
  split <;> rfl
theorem wk_or (x y : Int32) : wk (nI 304) x y = x ||| y := rfl
theorem wk_and (x y : Int32) : wk (nI 305) x y = x &&& y := rfl
theorem wk_least (x y : Int32) : wk (nI 314) x y = if y < x then y else x := by
  unfold wk f_X7_work
  rw [if_neg (by decide), if_neg (by decide), if_neg (by decide), if_neg (by decide), if_neg (by decide), if_neg (by decide), if_neg (by decide), if_neg (by decide), if_neg (by decide), if_pos (by decide), e_min, bd1_e]
  rfl
theorem wk_most (x y : Int32) : wk (nI 315) x y = if y < x then x else y := by
  unfold wk f_X7_work
  rw [if_neg (by decide), if_neg (by decide), if_neg (by decide), if_neg (by decide), if_neg (by decide), if_neg (by decide), if_neg (by decide), if_neg (by decide), if_neg (by decide), if_neg (by decide), e_max, bd1_e]
  show (if x < y then y else x) = _
  by_cases h1 : y < x
  · rw [if_pos h1, if_neg (fun z => Int32.lt_irrefl (Int32.lt_trans h1 z))]
  · rw [if_neg h1]
    by_cases h2 : x < y
    · rw [if_pos h2]
    · rw [if_neg h2]; exact Int32.le_antisymm (Int32.not_lt.mp h1) (Int32.not_lt.mp h2)
theorem BvLp {one : Nat → Res} {k0 : Nat} {op : Nat → Bool} (hop : ∀ k, op k = true → k = 304 ∨ k = 305) (h1 : ∀ p, BvR (one p)) : ∀ (f p : Nat) (c : List Int32) (v : Vl), (∀ vals, v vals = 0 ∨ v vals = 1) → BvR (pLp tx n one op f p c v)
  | 0, p, c, v, hv => hv
  | f + 1, p, c, v, hv => by
    unfold pLp
    by_cases e : op (kd tx n p) = true
    · rw [if_pos e]
      refine (h1 _).b fun q c2 v2 hv2 => BvLp (k0 := k0) hop h1 f q _ _ fun vals => ?_
      rcases hop _ e with k | k
      · rw [k, wk_or]
        rcases hv vals with a | a <;> rcases hv2 vals with b | b <;> rw [a, b] <;> decide
      · rw [k, wk_and]
        rcases hv vals with a | a <;> rcases hv2 vals with b | b <;> rw [a, b] <;> decide
    · rw [if_neg e]
      exact hv
theorem BvLo {one : Nat → Res} {op : Nat → Bool} (hop : ∀ k, op k = true → k = 304 ∨ k = 305) (h1 : ∀ p, BvR (one p)) (p : Nat) : BvR (pLo tx n one op p) := (h1 p).b fun q c v hv => BvLp (k0 := 0) hop h1 301 q c v hv
theorem op_and' : ∀ k, isAnd k = true → k = 304 ∨ k = 305 := by
  intro k h
  unfold isAnd at h
  simp at h
  omega
theorem op_or' : ∀ k, isOr k = true → k = 304 ∨ k = 305 := by
  intro k h
  unfold isOr at h
  simp at h
  omega
theorem BvTs {rc : Option (Nat → Res)} {su : Nat → Res} (hrc : ∀ P, rc = some P → ∀ p, BvR (P p)) (p : Nat) : BvR (pTest tx n rc su p) := by
  unfold pTest
  by_cases c1 : kd tx n p = 306
  · rw [if_pos c1]
    match rc, hrc with
    | none, _ => exact trivial
    | some P, hrc =>
      refine (hrc P rfl _).b fun q c v hv vals => ?_
      rcases hv vals with a | a
      · right; show 1 - v vals = 1; rw [a]; decide
      · left; show 1 - v vals = 0; rw [a]; decide
  · rw [if_neg c1]
    by_cases c2 : kd tx n p = 91
    · rw [if_pos c2]
      match rc, hrc with
      | none, _ => exact trivial
      | some P, hrc =>
        refine (BvLo op_or' (fun p => BvLo op_and' (hrc P rfl) p) _).b fun q c v hv => ?_
        split
        · exact hv
        · exact trivial
    · rw [if_neg c2]
      refine BvR.b' fun q c v => ?_
      by_cases c4 : kd tx n q = 60 ∨ kd tx n q = 62 ∨ kd tx n q = 61
      · rw [if_pos c4]
        refine BvR.b' fun q2 c2 v2 vals => ?_
        show wk (nI (kd tx n q)) (v vals) (v2 vals) = 0 ∨ wk (nI (kd tx n q)) (v vals) (v2 vals) = 1
        rcases c4 with k | k | k
        · rw [k, wk_lt]; split <;> simp
        · rw [k, wk_gt]; split <;> simp
        · rw [k, wk_eq]; split <;> simp
      · rw [if_neg c4]
        exact trivial
theorem BvT : ∀ (g p : Nat), BvR (pT tx n g p)
  | 0, p => BvTs (rc := none) (fun P h => absurd h (by simp)) p
  | g + 1, p => BvTs (rc := some (pT tx n g)) (fun P h p => by
      obtain rfl : pT tx n g = P := Option.some.inj h
      exact BvT g p) p
theorem BvB (g p : Nat) : BvR (pBoth tx n (pT tx n g) p) := BvLo op_and' (BvT g) p
theorem BvC (g p : Nat) : BvR (pChoice tx n (pT tx n g) p) := BvLo op_or' (BvB g) p
end GOOD
