/-! how large the determinants of a net can be; other pivots tell the same -/
theorem ls_bd (b : Nat → Nat) : ∀ (R : List Nat) (g : Nat → List Nat → Int), (∀ x t, (x :: t).Perm R → (g x t).natAbs ≤ b x) → (ls R g).natAbs ≤ (R.map b).sum
  | [], _, _ => by show (0 : Int).natAbs ≤ 0; decide
  | r :: R, g, h => by
    have h1 := h r R (List.Perm.refl _)
    have h2 := ls_bd b R (fun x t => g x (r :: t)) (fun x t hp => h x (r :: t) ((List.Perm.swap r x t).trans (hp.cons r)))
    show (g r R - ls R (fun x t => g x (r :: t))).natAbs ≤ b r + (R.map b).sum
    omega
theorem sum_const (B : Nat) : ∀ (R : List Nat), (R.map fun _ => B).sum = R.length * B
  | [] => by simp
  | r :: R => by
    show B + (R.map fun _ => B).sum = (R.length + 1) * B
    rw [sum_const B R, Nat.add_mul]
    omega
theorem sum_le {f g : Nat → Nat} : ∀ (R : List Nat), (∀ x, x ∈ R → f x ≤ g x) → (R.map f).sum ≤ (R.map g).sum
  | [], _ => Nat.le_refl _
  | r :: R, h => by
    show f r + (R.map f).sum ≤ g r + (R.map g).sum
    have := h r List.mem_cons_self
    have := sum_le R fun x hx => h x (List.mem_cons_of_mem _ hx)
    omega
theorem sum_add (f g : Nat → Nat) : ∀ (R : List Nat), (R.map fun x => f x + g x).sum = (R.map f).sum + (R.map g).sum
  | [] => rfl
  | r :: R => by
    show f r + g r + (R.map fun x => f x + g x).sum = f r + (R.map f).sum + (g r + (R.map g).sum)
    rw [sum_add f g R]
    omega
theorem sum_one (z B : Nat) : ∀ (R : List Nat), R.Nodup → (R.map fun x => if x = z then B else 0).sum ≤ B
  | [], _ => Nat.zero_le _
  | r :: R, h => by
    obtain ⟨h1, h2⟩ := List.nodup_cons.mp h
    show (if r = z then B else 0) + (R.map fun x => if x = z then B else 0).sum ≤ B
    by_cases e : r = z
    · rw [if_pos e]
      have : (R.map fun x => if x = z then B else 0).sum ≤ (R.map fun _ => 0).sum := sum_le R fun x hx => by
        rw [if_neg (fun q => h1 (by rw [e, ← q]; exact hx))]
        exact Nat.le_refl _
      rw [sum_const] at this
      omega
    · rw [if_neg e, Nat.zero_add]
      exact sum_one z B R h2
section BND
variable {A : Nat → Nat → Int}
/-- a string's column -/
def Spa (A : Nat → Nat → Int) (k : Nat) : Prop := (∀ x, (A x k).natAbs ≤ 10) ∧ ∃ z0 z1 z2 z3, ∀ x, A x k ≠ 0 → x = z0 ∨ x = z1 ∨ x = z2 ∨ x = z3
theorem Spa.sum {k : Nat} (h : Spa A k) (B : Nat) {R : List Nat} (hR : R.Nodup) : (R.map fun x => if A x k = 0 then 0 else B).sum ≤ 4 * B := by
  obtain ⟨-, z0, z1, z2, z3, hz⟩ := h
  have h1 : (R.map fun x => if A x k = 0 then 0 else B).sum ≤ (R.map fun x => ((if x = z0 then B else 0) + (if x = z1 then B else 0)) + ((if x = z2 then B else 0) + (if x = z3 then B else 0))).sum := sum_le R fun x _ => by
    by_cases e : A x k = 0
    · rw [if_pos e]; exact Nat.zero_le _
    · rw [if_neg e]
      rcases hz x e with q | q | q | q <;> rw [if_pos q] <;> omega
  rw [sum_add, sum_add, sum_add] at h1
  have a0 := sum_one z0 B R hR
  have a1 := sum_one z1 B R hR
  have a2 := sum_one z2 B R hR
  have a3 := sum_one z3 B R hR
  omega
def bnd (m : Nat) : Nat := if m = 0 then 1 else if m = 1 then 10 else if m = 2 then 200 else if m = 3 then 6000 else if m = 4 then 240000 else if m = 5 then 7800000 else 312000000
theorem dt_one (hk : ∀ x k, k < 6 → (A x k).natAbs ≤ 10) {k B : Nat} {S R : List Nat} (hk6 : k < 6) (h : ∀ t, t.length + 1 = R.length → t.Nodup → (dt A S t).natAbs ≤ B) (hR : R.Nodup) : (dt A (k :: S) R).natAbs ≤ R.length * (10 * B) := by
  have := ls_bd (fun _ => 10 * B) R (fun x t => A x k * dt A S t) (fun x t hp => by
    rw [Int.natAbs_mul]
    have hl := hp.length_eq
    exact Nat.mul_le_mul (hk x k hk6) (h t (by rw [← hl]; rfl) (List.nodup_cons.mp (hp.nodup_iff.mpr hR)).2))
  rw [sum_const] at this
  exact this
theorem dt_four {k B : Nat} {S R : List Nat} (hk : Spa A k) (h : ∀ t, t.length + 1 = R.length → t.Nodup → (dt A S t).natAbs ≤ B) (hR : R.Nodup) : (dt A (k :: S) R).natAbs ≤ 4 * (10 * B) := by
  have := ls_bd (fun x => if A x k = 0 then 0 else 10 * B) R (fun x t => A x k * dt A S t) (fun x t hp => by
    rw [Int.natAbs_mul]
    by_cases e : A x k = 0
    · rw [if_pos e, e]; simp
    · rw [if_neg e]
      have hl := hp.length_eq
      exact Nat.mul_le_mul (hk.1 x) (h t (by rw [← hl]; rfl) (List.nodup_cons.mp (hp.nodup_iff.mpr hR)).2))
  exact Nat.le_trans this (hk.sum _ hR)
/-- four rows, one of them without an entry in the first column -/
theorem dt_three {k B z : Nat} {S R : List Nat} (hk : Spa A k) (hz : z ∈ R) (hz0 : A z k = 0) (h4 : R.length = 4) (h : ∀ t, t.length + 1 = R.length → t.Nodup → (dt A S t).natAbs ≤ B) (hR : R.Nodup) : (dt A (k :: S) R).natAbs ≤ 3 * (10 * B) := by
  have h1 := ls_bd (fun x => if x = z then 0 else 10 * B) R (fun x t => A x k * dt A S t) (fun x t hp => by
    rw [Int.natAbs_mul]
    by_cases e : x = z
    · rw [if_pos e, e, hz0]; simp
    · rw [if_neg e]
      have hl := hp.length_eq
      exact Nat.mul_le_mul (hk.1 x) (h t (by rw [← hl]; rfl) (List.nodup_cons.mp (hp.nodup_iff.mpr hR)).2))
  have h2 : ∀ R : List Nat, z ∈ R → (R.map fun x => if x = z then 0 else 10 * B).sum + 10 * B ≤ R.length * (10 * B) := by
    intro R
    induction R with
    | nil => intro h; exact absurd h (by simp)
    | cons r R ih =>
      intro hm
      show (if r = z then 0 else 10 * B) + (R.map fun x => if x = z then 0 else 10 * B).sum + 10 * B ≤ (R.length + 1) * (10 * B)
      have h3 : (R.map fun x => if x = z then 0 else 10 * B).sum ≤ R.length * (10 * B) := by
        rw [← sum_const]
        exact sum_le R fun x _ => by split <;> omega
      rw [Nat.add_mul]
      by_cases e : r = z
      · rw [if_pos e]; omega
      · rw [if_neg e]
        have := ih ((List.mem_cons.mp hm).resolve_left (fun q => e q.symm))
        omega
  have h3 := h2 R hz
  rw [h4] at h3
  show (ls R (fun x t => A x k * dt A S t)).natAbs ≤ 3 * (10 * B)
  omega
theorem zero_row {k : Nat} (hk : Spa A k) {R : List Nat} (hR : R.Nodup) (h5 : 5 ≤ R.length) : ∃ z, z ∈ R ∧ A z k = 0 := by
  by_cases h : ∃ z, z ∈ R ∧ A z k = 0
  · exact h
  · exfalso
    have h1 := hk.sum 1 hR
    have h2 : (R.map fun _ => 1).sum ≤ (R.map fun x => if A x k = 0 then 0 else 1).sum := sum_le R fun x hx => by
      rw [if_neg (fun q => h ⟨x, hx, q⟩)]
      exact Nat.le_refl _
    rw [sum_const] at h2
    omega
theorem dt_bd (hk : ∀ k, k < 6 → Spa A k) : ∀ (m : Nat) (S R : List Nat), m ≤ 6 → S.length = m → (∀ s, s ∈ S → s < 6) → R.length = m → R.Nodup → (dt A S R).natAbs ≤ bnd m := by
  have hk1 : ∀ x k, k < 6 → (A x k).natAbs ≤ 10 := fun x k h => (hk k h).1 x
  have d0 : ∀ S R : List Nat, S.length = 0 → R.length = 0 → (dt A S R).natAbs ≤ 1 := by
    intro S R h1 h2
    obtain rfl := List.length_eq_zero_iff.mp h1
    obtain rfl := List.length_eq_zero_iff.mp h2
    show (if ([] : List Nat) = [] then (1 : Int) else 0).natAbs ≤ 1
    rw [if_pos rfl]
    decide
  have step : ∀ (m B : Nat), (∀ S R : List Nat, S.length = m → (∀ s, s ∈ S → s < 6) → R.length = m → R.Nodup → (dt A S R).natAbs ≤ B) → ∀ S R : List Nat, S.length = m + 1 → (∀ s, s ∈ S → s < 6) → R.length = m + 1 → R.Nodup → (dt A S R).natAbs ≤ (m + 1) * (10 * B) := by
    intro m B ih S R h1 h2 h3 h4
    match S, h1, h2 with
    | k :: S, h1, h2 =>
      have := dt_one hk1 (k := k) (B := B) (S := S) (R := R) (h2 k List.mem_cons_self) (fun t ht hn => ih S t (by simp at h1; exact h1) (fun s hs => h2 s (List.mem_cons_of_mem _ hs)) (by omega) hn) h4
      rw [h3] at this
      exact this
  have d1 := step 0 1 (fun S R h1 _ h3 _ => d0 S R h1 h3)
  have d2 := step 1 10 (fun S R h1 h2 h3 h4 => d1 S R h1 h2 h3 h4)
  have d3 := step 2 200 (fun S R h1 h2 h3 h4 => d2 S R h1 h2 h3 h4)
  have d4 := step 3 6000 (fun S R h1 h2 h3 h4 => d3 S R h1 h2 h3 h4)
  have d5 : ∀ S R : List Nat, S.length = 5 → (∀ s, s ∈ S → s < 6) → R.length = 5 → R.Nodup → (dt A S R).natAbs ≤ 7800000 := by
    intro S R h1 h2 h3 h4
    match S, h1, h2 with
    | k :: l :: S, h1, h2 =>
      have hl6 := h2 l (by simp)
      have hS3 : S.length = 3 := by simp at h1; omega
      have hS6 : ∀ s, s ∈ S → s < 6 := fun s hs => h2 s (by simp [hs])
      obtain ⟨z, z1, z2⟩ := zero_row (hk l hl6) h4 (by omega)
      have a1 := ls_bd (fun x => (if A x k = 0 then 0 else 1800000) + (if x = z then 600000 else 0)) R (fun x t => A x k * dt A (l :: S) t) (fun x t hp => by
        rw [Int.natAbs_mul]
        have hl := hp.length_eq
        have hn := hp.nodup_iff.mpr h4
        have hnt := (List.nodup_cons.mp hn).2
        have hl4 : t.length = 4 := by simp at hl; omega
        by_cases e : A x k = 0
        · rw [e]; simp
        · rw [if_neg e]
          by_cases ez : x = z
          · rw [if_pos ez]
            have := Nat.mul_le_mul (hk1 x k (h2 k (by simp))) (d4 (l :: S) t (by simp [hS3]) (fun s hs => by
              rcases List.mem_cons.mp hs with rfl | hs
              · exact hl6
              · exact hS6 s hs) hl4 hnt)
            omega
          · rw [if_neg ez]
            have hzt : z ∈ t := (List.mem_cons.mp (hp.mem_iff.mpr z1)).resolve_left (fun q => ez q.symm)
            have := Nat.mul_le_mul (hk1 x k (h2 k (by simp))) (dt_three (B := 6000) (hk l hl6) hzt z2 hl4 (fun u hu hn => d3 S u hS3 hS6 (by omega) hn) hnt)
            omega)
      rw [sum_add] at a1
      have a2 := (hk k (h2 k (by simp))).sum 1800000 h4
      have a3 := sum_one z 600000 R h4
      show (ls R (fun x t => A x k * dt A (l :: S) t)).natAbs ≤ 7800000
      omega
  have d6 : ∀ S R : List Nat, S.length = 6 → (∀ s, s ∈ S → s < 6) → R.length = 6 → R.Nodup → (dt A S R).natAbs ≤ 312000000 := by
    intro S R h1 h2 h3 h4
    match S, h1, h2 with
    | k :: S, h1, h2 =>
      have := dt_four (B := 7800000) (hk k (h2 k (by simp))) (S := S) (R := R) (fun t ht hn => d5 S t (by simp at h1; omega) (fun s hs => h2 s (by simp [hs])) (by omega) hn) h4
      omega
  intro m S R hm h1 h2 h3 h4
  obtain rfl | rfl | rfl | rfl | rfl | rfl | rfl : m = 0 ∨ m = 1 ∨ m = 2 ∨ m = 3 ∨ m = 4 ∨ m = 5 ∨ m = 6 := by omega
  · exact d0 S R h1 h3
  · have := d1 S R h1 h2 h3 h4; show _ ≤ 10; omega
  · have := d2 S R h1 h2 h3 h4; show _ ≤ 200; omega
  · have := d3 S R h1 h2 h3 h4; show _ ≤ 6000; omega
  · have := d4 S R h1 h2 h3 h4; show _ ≤ 240000; omega
  · exact d5 S R h1 h2 h3 h4
  · exact d6 S R h1 h2 h3 h4
theorem bnd_le {m : Nat} (h : m ≤ 6) : bnd m ≤ 312000000 := by
  obtain rfl | rfl | rfl | rfl | rfl | rfl | rfl : m = 0 ∨ m = 1 ∨ m = 2 ∨ m = 3 ∨ m = 4 ∨ m = 5 ∨ m = 6 := by omega
  all_goals decide
theorem bnd_5 {m : Nat} (h : m ≤ 5) : bnd m ≤ 7800000 := by
  obtain rfl | rfl | rfl | rfl | rfl | rfl : m = 0 ∨ m = 1 ∨ m = 2 ∨ m = 3 ∨ m = 4 ∨ m = 5 := by omega
  all_goals decide
/-- with the pulls' column -/
theorem dt_rhs (hk : ∀ k, k < 6 → Spa A k) (h6 : ∀ x, (A x 6).natAbs ≤ 100) {m : Nat} (hm : m ≤ 6) {S R : List Nat} (h1 : S.length = m) (h2 : ∀ s, s ∈ S → s < 6) (h3 : R.length = m + 1) (h4 : R.Nodup) : (dt A (6 :: S) R).natAbs ≤ (m + 1) * (100 * bnd m) := by
  have := ls_bd (fun _ => 100 * bnd m) R (fun x t => A x 6 * dt A S t) (fun x t hp => by
    rw [Int.natAbs_mul]
    have hl := hp.length_eq
    exact Nat.mul_le_mul (h6 x) (dt_bd hk m S t hm h1 h2 (by simp at hl; omega) (List.nodup_cons.mp (hp.nodup_iff.mpr h4)).2))
  rw [sum_const, h3] at this
  exact this
end BND
/-! other pivots tell the same -/
section PIV
variable (A : Nat → Nat → Int)
def sN : Nat → (Nat → Int) → Int
  | 0, _ => 0
  | n + 1, f => sN n f + f n
theorem sN_congr {f g : Nat → Int} : ∀ (n : Nat), (∀ j, j < n → f j = g j) → sN n f = sN n g
  | 0, _ => rfl
  | n + 1, h => by
    show sN n f + f n = sN n g + g n
    rw [sN_congr n fun j hj => h j (by omega), h n (by omega)]
theorem sN_zero : ∀ (n : Nat) (f : Nat → Int), (∀ j, j < n → f j = 0) → sN n f = 0
  | 0, _, _ => rfl
  | n + 1, f, h => by
    show sN n f + f n = 0
    rw [sN_zero n f fun j hj => h j (by omega), h n (by omega)]
    rfl
theorem sN_single {f : Nat → Int} {l : Nat} : ∀ (n : Nat), l < n → (∀ j, j < n → j ≠ l → f j = 0) → sN n f = f l
  | 0, h, _ => absurd h (by omega)
  | n + 1, h, hz => by
    show sN n f + f n = f l
    by_cases e : l = n
    · subst e
      rw [sN_zero l f fun j hj => hz j (by omega) (by omega), Int.zero_add]
    · rw [sN_single n (by omega) fun j hj hne => hz j (by omega) hne, hz n (by omega) (fun q => e q.symm), Int.add_zero]
theorem sN_lin (a b : Int) (f g : Nat → Int) : ∀ n, sN n (fun j => a * f j + b * g j) = a * sN n f + b * sN n g
  | 0 => by show (0 : Int) = a * 0 + b * 0; rw [Int.mul_zero, Int.mul_zero]; rfl
  | n + 1 => by
    show sN n _ + (a * f n + b * g n) = a * (sN n f + f n) + b * (sN n g + g n)
    rw [sN_lin a b f g n]
    grind
/-- what all rows say of columns, combinations of rows say too -/
theorem sp_rel {S : List Nat} {D : Int} {k : Nat} {u : Nat → Int} : ∀ {R : List Nat} {v : Nat → Int}, (∀ r, r ∈ R → D * A r k = sN S.length (fun j => A r (S.getD j 0) * u j)) → sp A R v → D * v k = sN S.length (fun j => v (S.getD j 0) * u j)
  | [], v, _, hv => by
    rw [hv k, Int.mul_zero, sN_zero _ _ fun j _ => by rw [hv, Int.zero_mul]]
  | r :: R, v, h, ⟨c, v', h1, h2⟩ => by
    have ih := sp_rel (fun x hx => h x (List.mem_cons_of_mem _ hx)) h1
    have hr := h r List.mem_cons_self
    rw [h2 k, sN_congr (g := fun j => c * (A r (S.getD j 0) * u j) + 1 * (v' (S.getD j 0) * u j)) _ fun j _ => by rw [h2]; grind, sN_lin, ← ih, ← hr]
    grind
theorem sp_mem {r : Nat} : ∀ {R : List Nat}, r ∈ R → sp A R (fun k => A r k)
  | [], h => absurd h (by simp)
  | x :: R, h => by
    by_cases e : r = x
    · subst e
      exact ⟨1, fun _ => 0, sp_zero A R, fun k => by rw [Int.one_mul, Int.add_zero]⟩
    · exact sp_up A (sp_mem ((List.mem_cons.mp h).resolve_left e))
/-- a pivot's own row leaves nothing -/
theorem W_piv {P S : List Nat} (hp : PC A P S) {r : Nat} (hr : r ∈ P) (k : Nat) : dt A (k :: S) (r :: P) = 0 := by
  obtain ⟨v', e1, e2⟩ := dt_row A S r P
  have h1 : sp A P (fun k => dt A (k :: S) (r :: P)) := sp_congr A (fun k => by rw [e2 k, Int.one_mul]) (sp_lin A (dt A S P) 1 (sp_mem A hr) e1)
  exact uq A hp h1 (fun s hs => dt_rep A S _ hs) k
/-- a row, by the pivots' rows and what is left of it -/
theorem row_by {P S : List Nat} (hp : PC A P S) (r k : Nat) : dt A S P * A r k = sN S.length (fun j => A r (S.getD j 0) * Uj A S P j k) + dt A (k :: S) (r :: P) := by
  obtain ⟨v', e1, e2⟩ := dt_row A S r P
  have hsum : ∀ n, sp A P (fun k => sN n (fun j => A r (S.getD j 0) * Uj A S P j k)) := by
    intro n
    induction n with
    | zero => exact sp_zero A P
    | succ n ih => exact sp_congr A (fun k => by show 1 * _ + _ = sN n _ + _; rw [Int.one_mul]) (sp_lin A 1 (A r (S.getD n 0)) ih (U_sp A S P n))
  have key := uq A hp (v := fun k => 1 * v' k + 1 * sN S.length (fun j => A r (S.getD j 0) * Uj A S P j k)) (sp_lin A 1 1 e1 (hsum _)) (fun s hs => by
    obtain ⟨l, hl, rfl⟩ := List.mem_iff_getElem.mp hs
    have a1 := e2 S[l]
    rw [dt_rep A S _ hs] at a1
    have a2 : sN S.length (fun j => A r (S.getD j 0) * Uj A S P j S[l]) = A r S[l] * dt A S P := by
      rw [sN_single (l := l) S.length hl fun j hj hne => by rw [U_off A hl (fun q => hne q.symm), Int.mul_zero], U_own A hl]
      simp [hl]
    show 1 * v' S[l] + 1 * sN S.length (fun j => A r (S.getD j 0) * Uj A S P j S[l]) = 0
    rw [a2]
    grind) k
  rw [e2 k]
  have key' : 1 * v' k + 1 * sN S.length (fun j => A r (S.getD j 0) * Uj A S P j k) = 0 := key
  omega
/-- whether a column hangs on the others does not hang on the pivots -/
theorem piv_dep {P P' S : List Nat} (hp : PC A P S) (hp' : PC A P' S) {k : Nat} {N : Nat} (hP' : ∀ r, r ∈ P' → r < N) (h : ∀ r, r < N → dt A (k :: S) (r :: P) = 0) : ∀ r, r < N → dt A (k :: S) (r :: P') = 0 := by
  intro r hr
  have hD := PC_d A hp
  have e : dt A S P * dt A (k :: S) (r :: P') = sN S.length (fun j => dt A (S.getD j 0 :: S) (r :: P') * Uj A S P j k) := sp_rel A (R := r :: P') (v := fun k => dt A (k :: S) (r :: P')) (u := fun j => Uj A S P j k) (fun x hx => by
    have hx' : x < N := by
      rcases List.mem_cons.mp hx with rfl | hx
      · exact hr
      · exact hP' x hx
    have := row_by A hp x k
    rw [h x hx', Int.add_zero] at this
    exact this) (sp_dt A S (r :: P'))
  rw [sN_zero _ _ fun j hj => by
    rw [dt_rep A S _ (by rw [List.getD_eq_getElem?_getD, List.getElem?_eq_getElem hj]; exact List.getElem_mem hj), Int.zero_mul]] at e
  exact (Int.mul_eq_zero.mp e).resolve_left hD
/-- nor do the values -/
theorem piv_val {P P' S : List Nat} (hp : PC A P S) (hp' : PC A P' S) {k : Nat} {N : Nat} (hP' : ∀ r, r ∈ P' → r < N) (h : ∀ r, r < N → dt A (k :: S) (r :: P) = 0) {j : Nat} (hj : j < S.length) : dt A S P * Uj A S P' j k = Uj A S P j k * dt A S P' := by
  have e : dt A S P * Uj A S P' j k = sN S.length (fun l => Uj A S P' j (S.getD l 0) * Uj A S P l k) := sp_rel A (R := P') (v := fun k => Uj A S P' j k) (u := fun j => Uj A S P j k) (fun x hx => by
    have := row_by A hp x k
    rw [h x (hP' x hx), Int.add_zero] at this
    exact this) (U_sp A S P' j)
  rw [e, sN_single (l := j) S.length hj fun l hl hne => by
    rw [show S.getD l 0 = S[l] by simp [hl], U_off A hl hne, Int.zero_mul], show S.getD j 0 = S[j] by simp [hj], U_own A hj, Int.mul_comm]
end PIV
