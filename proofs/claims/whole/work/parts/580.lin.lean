/-! determinants along the first column; rows of a matrix and what they span -/
def ls : List Nat → (Nat → List Nat → Int) → Int
  | [], _ => 0
  | r :: R, g => g r R - ls R (fun x t => g x (r :: t))
theorem ls_congr : ∀ (R : List Nat) {g h : Nat → List Nat → Int}, (∀ x t, g x t = h x t) → ls R g = ls R h
  | [], _, _, _ => rfl
  | r :: R, g, h, e => by
    show g r R - ls R _ = h r R - ls R _
    rw [e r R, ls_congr R (fun x t => e x (r :: t))]
theorem ls_mul (c : Int) : ∀ (R : List Nat) (g : Nat → List Nat → Int), ls R (fun x t => c * g x t) = c * ls R g
  | [], g => by show (0 : Int) = c * 0; rw [Int.mul_zero]
  | r :: R, g => by
    show c * g r R - ls R _ = c * (g r R - ls R _)
    rw [ls_mul c R (fun x t => g x (r :: t)), Int.mul_sub]
theorem ls_sub : ∀ (R : List Nat) (g h : Nat → List Nat → Int), ls R (fun x t => g x t - h x t) = ls R g - ls R h
  | [], _, _ => rfl
  | r :: R, g, h => by
    show g r R - h r R - ls R _ = (g r R - ls R _) - (h r R - ls R _)
    rw [ls_sub R (fun x t => g x (r :: t)) (fun x t => h x (r :: t))]
    omega
theorem ls_zero : ∀ (R : List Nat), ls R (fun _ _ => 0) = 0
  | [] => rfl
  | r :: R => by
    show 0 - ls R _ = 0
    rw [ls_zero R]
    rfl
theorem ls_swap (a b : Nat → Int) : ∀ (R : List Nat) (g : List Nat → Int), ls R (fun x t => a x * ls t (fun y u => b y * g u)) = -ls R (fun x t => b x * ls t (fun y u => a y * g u))
  | [], g => rfl
  | r :: R, g => by
    have e1 : ∀ (a b : Nat → Int), ls (r :: R) (fun x t => a x * ls t (fun y u => b y * g u)) = a r * ls R (fun y u => b y * g u) - (b r * ls R (fun x t => a x * g t) - ls R (fun x t => a x * ls t (fun y u => b y * g (r :: u)))) := by
      intro a b
      show a r * ls R (fun y u => b y * g u) - ls R (fun x t => a x * ls (r :: t) (fun y u => b y * g u)) = _
      congr 1
      rw [← ls_mul, ← ls_sub]
      refine ls_congr R fun x t => ?_
      show a x * (b r * g t - ls t (fun y u => b y * g (r :: u))) = b r * (a x * g t) - _
      rw [Int.mul_sub, Int.mul_left_comm]
    rw [e1 a b, e1 b a, ls_swap a b R (fun u => g (r :: u))]
    omega
section LIN
variable (A : Nat → Nat → Int)
def dt : List Nat → List Nat → Int
  | [], R => if R = [] then 1 else 0
  | k :: S, R => ls R (fun x t => A x k * dt S t)
theorem dt_swap (k l : Nat) (S R : List Nat) : dt A (k :: l :: S) R = -dt A (l :: k :: S) R := ls_swap (fun x => A x k) (fun x => A x l) R (dt A S)
theorem dt_rep {k : Nat} : ∀ (S R : List Nat), k ∈ S → dt A (k :: S) R = 0
  | [], _, h => absurd h (by simp)
  | l :: S, R, h => by
    by_cases e : k = l
    · subst e
      have := dt_swap A k k S R
      omega
    · have h' : k ∈ S := (List.mem_cons.mp h).resolve_left e
      rw [dt_swap]
      have : dt A (l :: k :: S) R = 0 := by
        show ls R (fun x t => A x l * dt A (k :: S) t) = 0
        rw [ls_congr R (h := fun _ _ => 0) (fun x t => by rw [dt_rep S t h', Int.mul_zero]), ls_zero]
      rw [this]
      rfl
theorem dt_front (k : Nat) : ∀ (S1 S2 R : List Nat), dt A (S1 ++ k :: S2) R = (-1) ^ S1.length * dt A (k :: (S1 ++ S2)) R
  | [], S2, R => by rw [List.length_nil, Int.pow_zero, Int.one_mul]; rfl
  | l :: S1, S2, R => by
    show ls R (fun x t => A x l * dt A (S1 ++ k :: S2) t) = _
    rw [ls_congr R (h := fun x t => (-1) ^ S1.length * (A x l * dt A (k :: (S1 ++ S2)) t)) (fun x t => by rw [dt_front k S1 S2 t, Int.mul_left_comm]), ls_mul]
    show (-1) ^ S1.length * dt A (l :: k :: (S1 ++ S2)) R = (-1) ^ (S1.length + 1) * dt A (k :: l :: (S1 ++ S2)) R
    rw [dt_swap A l k, Int.pow_succ, Int.mul_neg, Int.mul_neg_one, Int.neg_mul]
/-- integer combinations of rows -/
def sp : List Nat → (Nat → Int) → Prop
  | [], v => ∀ k, v k = 0
  | r :: R, v => ∃ c v', sp R v' ∧ ∀ k, v k = c * A r k + v' k
theorem sp_congr {v w : Nat → Int} (e : ∀ k, v k = w k) : ∀ {R : List Nat}, sp A R v → sp A R w
  | [], h => fun k => by rw [← e k]; exact h k
  | _ :: _, ⟨c, v', h1, h2⟩ => ⟨c, v', h1, fun k => by rw [← e k]; exact h2 k⟩
theorem sp_lin (a b : Int) : ∀ {R : List Nat} {v w : Nat → Int}, sp A R v → sp A R w → sp A R (fun k => a * v k + b * w k)
  | [], v, w, h1, h2 => fun k => by
    show a * v k + b * w k = 0
    rw [h1 k, h2 k, Int.mul_zero, Int.mul_zero]; rfl
  | r :: R, v, w, ⟨c, v', h1, h2⟩, ⟨d, w', h3, h4⟩ => ⟨a * c + b * d, fun k => a * v' k + b * w' k, sp_lin a b h1 h3, fun k => by
      show a * v k + b * w k = (a * c + b * d) * A r k + (a * v' k + b * w' k)
      rw [h2 k, h4 k]; grind⟩
theorem sp_zero : ∀ (R : List Nat), sp A R (fun _ => 0)
  | [] => fun _ => rfl
  | r :: R => ⟨0, fun _ => 0, sp_zero R, fun k => by rw [Int.zero_mul]; rfl⟩
theorem sp_up {r : Nat} {R : List Nat} {v : Nat → Int} (h : sp A R v) : sp A (r :: R) v := ⟨0, v, h, fun k => by rw [Int.zero_mul, Int.zero_add]⟩
theorem sp_mul (c : Int) {R : List Nat} {v : Nat → Int} (h : sp A R v) : sp A R (fun k => c * v k) := sp_congr A (fun k => by rw [Int.zero_mul, Int.add_zero]) (sp_lin A c 0 h h)
theorem sp_ls : ∀ (R : List Nat) (h : Nat → List Nat → Int), sp A R (fun k => ls R (fun x t => A x k * h x t))
  | [], _ => fun _ => rfl
  | r :: R, h => ⟨h r R, fun k => (-1) * ls R (fun x t => A x k * h x (r :: t)), sp_mul A (-1) (sp_ls R (fun x t => h x (r :: t))), fun k => by
      show A r k * h r R - ls R (fun x t => A x k * h x (r :: t)) = h r R * A r k + (-1) * ls R (fun x t => A x k * h x (r :: t))
      rw [Int.mul_comm]
      omega⟩
theorem sp_dt (S R : List Nat) : sp A R (fun k => dt A (k :: S) R) := sp_ls A R (fun _ t => dt A S t)
/-- a row more: its own part is the smaller determinant times it -/
theorem dt_row (S : List Nat) (i : Nat) (P : List Nat) : ∃ v', sp A P v' ∧ ∀ k, dt A (k :: S) (i :: P) = dt A S P * A i k + v' k :=
  ⟨fun k => (-1) * ls P (fun x t => A x k * dt A S (i :: t)), sp_mul A (-1) (sp_ls A P (fun _ t => dt A S (i :: t))), fun k => by
    show A i k * dt A S P - ls P (fun x t => A x k * dt A S (i :: t)) = dt A S P * A i k + (-1) * ls P (fun x t => A x k * dt A S (i :: t))
    rw [Int.mul_comm]
    omega⟩
/-- pivots one after the other -/
def PC : List Nat → List Nat → Prop
  | [], [] => True
  | c :: P, s :: S => PC P S ∧ dt A (s :: S) (c :: P) ≠ 0
  | _, _ => False
theorem PC_d : ∀ {P S : List Nat}, PC A P S → dt A S P ≠ 0
  | [], [], _ => by show (if [] = ([] : List Nat) then (1 : Int) else 0) ≠ 0; rw [if_pos rfl]; decide
  | _ :: _, _ :: _, h => h.2
theorem PC_len : ∀ {P S : List Nat}, PC A P S → P.length = S.length
  | [], [], _ => rfl
  | _ :: _, _ :: _, h => by rw [List.length_cons, List.length_cons, PC_len h.1]
theorem uq : ∀ {P S : List Nat}, PC A P S → ∀ {v : Nat → Int}, sp A P v → (∀ s, s ∈ S → v s = 0) → ∀ k, v k = 0
  | [], [], _, v, h, _ => h
  | c :: P, s :: S, hP, v, ⟨g, v', h1, h2⟩, hz => by
    obtain ⟨hp, hL⟩ := hP
    have hD := PC_d A hp
    obtain ⟨w', e1, e2⟩ := dt_row A S c P
    have key := uq hp (v := fun k => dt A S P * v' k + (-g) * w' k) (sp_lin A _ _ h1 e1) (fun t ht => by
      have a1 := hz t (List.mem_cons_of_mem _ ht)
      have a2 := e2 t
      rw [dt_rep A S _ ht] at a2
      rw [h2 t] at a1
      show dt A S P * v' t + -g * w' t = 0
      have b1 : v' t = -(g * A c t) := by omega
      have b2 : w' t = -(dt A S P * A c t) := by omega
      rw [b1, b2]
      grind)
    have key2 : ∀ k, dt A S P * v k = g * dt A (k :: S) (c :: P) := by
      intro k
      have := key k
      rw [h2 k, e2 k]
      grind
    have g0 : g = 0 := by
      have := key2 s
      rw [hz s List.mem_cons_self, Int.mul_zero] at this
      exact (Int.mul_eq_zero.mp this.symm).resolve_right hL
    intro k
    have := key2 k
    rw [g0, Int.zero_mul] at this
    exact (Int.mul_eq_zero.mp this).resolve_left hD
  | [], _ :: _, h, _, _, _ => absurd h (by simp [PC])
  | _ :: _, [], h, _, _, _ => absurd h (by simp [PC])
/-- one step, a row that is no pivot -/
theorem st_w {P S : List Nat} {c s : Nat} (hp : PC A P S) (hL : dt A (s :: S) (c :: P) ≠ 0) (i k : Nat) : dt A S P * dt A (k :: s :: S) (i :: c :: P) = dt A (s :: S) (c :: P) * dt A (k :: S) (i :: P) - dt A (s :: S) (i :: P) * dt A (k :: S) (c :: P) := by
  obtain ⟨w1, e1, e2⟩ := dt_row A (s :: S) i (c :: P)
  obtain ⟨w2, e3, e4⟩ := dt_row A S i P
  have key := uq A (P := c :: P) (S := s :: S) ⟨hp, hL⟩ (v := fun k => 1 * (dt A S P * w1 k + (-(dt A (s :: S) (c :: P))) * w2 k) + dt A (s :: S) (i :: P) * dt A (k :: S) (c :: P)) (sp_lin A _ _ (sp_lin A _ _ e1 (sp_up A e3)) (sp_dt A S (c :: P))) (fun t ht => by
    have a1 := e2 t
    have a2 := e4 t
    rw [dt_rep A (s :: S) _ ht] at a1
    rcases List.mem_cons.mp ht with rfl | ht
    · show 1 * (dt A S P * w1 t + (-(dt A (t :: S) (c :: P))) * w2 t) + dt A (t :: S) (i :: P) * dt A (t :: S) (c :: P) = 0
      have b1 : w1 t = -(dt A (t :: S) (c :: P) * A i t) := by omega
      have b2 : w2 t = dt A (t :: S) (i :: P) - dt A S P * A i t := by omega
      rw [b1, b2]
      grind
    · rw [dt_rep A S _ ht] at a2
      show 1 * (dt A S P * w1 t + (-(dt A (s :: S) (c :: P))) * w2 t) + dt A (s :: S) (i :: P) * dt A (t :: S) (c :: P) = 0
      rw [dt_rep A S _ ht]
      have b1 : w1 t = -(dt A (s :: S) (c :: P) * A i t) := by omega
      have b2 : w2 t = -(dt A S P * A i t) := by omega
      rw [b1, b2]
      grind) k
  rw [e2 k, e4 k]
  grind
/-- a pivot's row -/
def Uj (S P : List Nat) (j k : Nat) : Int := (-1) ^ j * dt A (k :: S.eraseIdx j) P
theorem U_sp (S P : List Nat) (j : Nat) : sp A P (fun k => Uj A S P j k) := sp_mul A _ (sp_dt A (S.eraseIdx j) P)
theorem U_own {S P : List Nat} {j : Nat} (hj : j < S.length) : Uj A S P j S[j] = dt A S P := by
  have e : S = S.take j ++ S[j] :: S.drop (j + 1) := by rw [List.getElem_cons_drop, List.take_append_drop]
  have e2 : S.eraseIdx j = S.take j ++ S.drop (j + 1) := List.eraseIdx_eq_take_drop_succ S j
  have := dt_front A S[j] (S.take j) (S.drop (j + 1)) P
  rw [← e, List.length_take, Nat.min_eq_left (by omega)] at this
  unfold Uj
  rw [this, e2]
theorem mem_erase {S : List Nat} {j l : Nat} (hl : l < S.length) (h : l ≠ j) : S[l] ∈ S.eraseIdx j := by
  rw [List.mem_eraseIdx_iff_getElem]
  exact ⟨l, hl, h, rfl⟩
theorem U_off {S P : List Nat} {j l : Nat} (hl : l < S.length) (h : l ≠ j) : Uj A S P j S[l] = 0 := by
  unfold Uj
  rw [dt_rep A _ _ (mem_erase hl h), Int.mul_zero]
/-- one step, a pivot's row -/
theorem st_u {P S : List Nat} {c s : Nat} (hp : PC A P S) (hL : dt A (s :: S) (c :: P) ≠ 0) {j : Nat} (hj : j < S.length) (k : Nat) : dt A S P * Uj A (s :: S) (c :: P) (j + 1) k = dt A (s :: S) (c :: P) * Uj A S P j k - Uj A S P j s * dt A (k :: S) (c :: P) := by
  have key := uq A (P := c :: P) (S := s :: S) ⟨hp, hL⟩ (v := fun k => 1 * (dt A S P * Uj A (s :: S) (c :: P) (j + 1) k + (-(dt A (s :: S) (c :: P))) * Uj A S P j k) + Uj A S P j s * dt A (k :: S) (c :: P)) (sp_lin A _ _ (sp_lin A _ _ (U_sp A _ _ _) (sp_up A (U_sp A _ _ _))) (sp_dt A S (c :: P))) (fun t ht => by
    obtain ⟨l, hl, rfl⟩ := List.mem_iff_getElem.mp ht
    show 1 * (dt A S P * Uj A (s :: S) (c :: P) (j + 1) (s :: S)[l] + (-(dt A (s :: S) (c :: P))) * Uj A S P j (s :: S)[l]) + Uj A S P j s * dt A ((s :: S)[l] :: S) (c :: P) = 0
    by_cases e : l = j + 1
    · subst e
      have hj' : (s :: S)[j + 1] = S[j] := rfl
      rw [U_own A hl, hj', U_own A hj, dt_rep A S _ (List.getElem_mem hj)]
      grind
    · rw [U_off A hl e]
      cases l with
      | zero =>
        show 1 * (dt A S P * 0 + (-(dt A (s :: S) (c :: P))) * Uj A S P j s) + Uj A S P j s * dt A (s :: S) (c :: P) = 0
        grind
      | succ l =>
        have hl' : l < S.length := by simp at hl; omega
        have h2 : (s :: S)[l + 1] = S[l] := rfl
        rw [h2, U_off A hl' (by omega), dt_rep A S _ (List.getElem_mem hl')]
        grind) k
  grind
theorem U_new (S P : List Nat) (c s k : Nat) : Uj A (s :: S) (c :: P) 0 k = dt A (k :: S) (c :: P) := by
  unfold Uj
  rw [Int.pow_zero, Int.one_mul]
  rfl
end LIN
