/-! strips: piles as rows of parts; a stack of half laid creases finds just the piles in which no crease crosses another -/
def rsB (u i : Nat) : Bool := u.testBit i == decide (i % 2 = 0)
def btw (ly : Nat → Nat) (i x : Nat) : Prop := (ly i < x ∧ x < ly (i + 1)) ∨ (ly (i + 1) < x ∧ x < ly i)
def St (n u : Nat) (ly : Nat → Nat) : Prop := (∀ i, i + 1 < n → (ly i < ly (i + 1) ↔ rsB u i = true)) ∧ ∀ i j, i < j → j % 2 = i % 2 → j + 1 < n → (btw ly i (ly j) ↔ btw ly i (ly (j + 1)))
noncomputable def stB (n u : Nat) (row : List Nat) : Bool := @decide (St n u (fun p => row.idxOf p)) (Classical.propDecidable _)
theorem stB_iff {n u : Nat} {row : List Nat} : stB n u row = true ↔ St n u (fun p => row.idxOf p) := @decide_eq_true_iff _ (Classical.propDecidable _)
/-- a part may come next, as for its neighbours -/
def okPt (n u : Nat) (l : List Nat) (p : Nat) : Bool := !l.contains p && (decide (p = 0) || (l.contains (p - 1) == rsB u (p - 1))) && (decide (p = n - 1) || (l.contains (p + 1) != rsB u p))
/-- the crease of a parity at a part -/
def crs (n par p : Nat) : Option Nat := if p % 2 = par then (if p + 1 < n then some p else none) else (if 0 < p then some (p - 1) else none)
def popS (s : List Nat) (c : Nat) : Option (List Nat) := match s with
  | [] => none
  | d :: t => if d = c then some t else none
def sdW (n par : Nat) (l : List Nat) (p : Nat) (s : List Nat) : Option (List Nat) := match crs n par p with
  | none => some s
  | some c => if l.contains (if p = c then c + 1 else c) = true then popS s c else some (c :: s)
def compC (n u : Nat) : Nat → List Nat → List Nat → List Nat → List (List Nat)
  | 0, l, _, _ => [l]
  | m + 1, l, se, so => (List.range n).flatMap fun p => if okPt n u l p = true then (match sdW n 0 l p se, sdW n 1 l p so with | some a, some b => compC n u m (l ++ [p]) a b | _, _ => []) else []
def compR (n : Nat) : Nat → List Nat → List (List Nat)
  | 0, l => [l]
  | m + 1, l => (List.range n).flatMap fun p => if l.contains p = true then [] else compR n m (l ++ [p])
/-! positions -/
theorem ix_app {l r : List Nat} {x : Nat} (h : x ∈ l) : (l ++ r).idxOf x = l.idxOf x := by rw [List.idxOf_append, if_pos h]
theorem ix_app2 {l r : List Nat} {x : Nat} (h : ¬ x ∈ l) : (l ++ r).idxOf x = r.idxOf x + l.length := by rw [List.idxOf_append, if_neg h]
theorem ix_lt {l : List Nat} {x : Nat} (h : x ∈ l) : l.idxOf x < l.length := List.idxOf_lt_length_iff.mpr h
theorem ix_no {l : List Nat} {x : Nat} (h : ¬ x ∈ l) : l.idxOf x = l.length := by
  have h1 := List.idxOf_le_length (l := l) (a := x)
  rcases Nat.lt_or_ge (l.idxOf x) l.length with q | q
  · exact absurd (List.idxOf_lt_length_iff.mp q) h
  · omega
theorem ix_inj {l : List Nat} {x y : Nat} (hx : x ∈ l) (hy : y ∈ l) (e : l.idxOf x = l.idxOf y) : x = y := by
  have h1 := List.getElem_idxOf (ix_lt hx)
  have h2 := List.getElem_idxOf (ix_lt hy)
  rw [← h1, ← h2]
  simp only [e]
/-- where the first part of a crease lies -/
def fst_ (l : List Nat) (c : Nat) : Nat := min (l.idxOf c) (l.idxOf (c + 1))
def opn (n par : Nat) (l : List Nat) (c : Nat) : Prop := (c % 2 = par ∧ c + 1 < n) ∧ ¬ (c ∈ l ↔ c + 1 ∈ l)
/-- the stack s holds the half laid creases of l, the latest first -/
def SI (n par : Nat) (l s : List Nat) : Prop := (∀ c, c ∈ s ↔ opn n par l c) ∧ s.Pairwise (fun c d => fst_ l d < fst_ l c)
theorem SI_nil (n par : Nat) : SI n par [] [] := ⟨fun c => ⟨fun h => absurd h List.not_mem_nil, fun h => absurd (show (c ∈ ([] : List Nat) ↔ c + 1 ∈ ([] : List Nat)) by simp) h.2⟩, List.Pairwise.nil⟩
theorem crs_some {n par p c : Nat} (hp : p < n) (hpar : par < 2) (h : crs n par p = some c) : (c % 2 = par ∧ c + 1 < n) ∧ (p = c ∨ p = c + 1) := by
  unfold crs at h
  split at h
  next q =>
    split at h
    next q2 => cases h; exact ⟨⟨q, q2⟩, Or.inl rfl⟩
    next => cases h
  next q =>
    split at h
    next q2 => cases h; exact ⟨⟨by omega, by omega⟩, Or.inr (by omega)⟩
    next => cases h
theorem crs_of {n par p c : Nat} (h1 : c % 2 = par) (h2 : c + 1 < n) (h3 : p = c ∨ p = c + 1) : crs n par p = some c := by
  unfold crs
  rcases h3 with rfl | rfl
  · rw [if_pos h1, if_pos h2]
  · rw [if_neg (by omega), if_pos (by omega)]
    rfl
theorem fst_app {n par : Nat} {l : List Nat} {c : Nat} (h : opn n par l c) (r : List Nat) : fst_ (l ++ r) c = fst_ l c ∧ fst_ l c < l.length := by
  unfold fst_
  by_cases h1 : c ∈ l
  · have h2 : ¬ c + 1 ∈ l := fun q => h.2 ⟨fun _ => q, fun _ => h1⟩
    have := ix_lt h1
    rw [ix_app h1, ix_app2 h2, ix_no h2]
    omega
  · have h2 : c + 1 ∈ l := Decidable.not_not.mp fun q => h.2 ⟨fun x => absurd x h1, fun x => absurd x q⟩
    have := ix_lt h2
    rw [ix_app h2, ix_app2 h1, ix_no h1]
    omega
theorem opn_app {n par : Nat} {l : List Nat} {p c : Nat} (h : p ≠ c) (h2 : p ≠ c + 1) : opn n par (l ++ [p]) c ↔ opn n par l c := by
  unfold opn
  simp only [List.mem_append, List.mem_singleton]
  constructor
  · rintro ⟨q1, q2⟩
    refine ⟨q1, fun q => q2 ⟨fun x => ?_, fun x => ?_⟩⟩
    · rcases x with x | x
      · exact Or.inl (q.mp x)
      · omega
    · rcases x with x | x
      · exact Or.inl (q.mpr x)
      · omega
  · rintro ⟨q1, q2⟩
    refine ⟨q1, fun q => q2 ⟨fun x => ?_, fun x => ?_⟩⟩
    · rcases q.mp (Or.inl x) with y | y
      · exact y
      · omega
    · rcases q.mpr (Or.inl x) with y | y
      · exact y
      · omega
/-- what one more part does to the stack -/
theorem SI_step {n par : Nat} {l s : List Nat} {p : Nat} (hpar : par < 2) (h : SI n par l s) (hp : p < n) (hn : ¬ p ∈ l) :
    (∃ t, sdW n par l p s = some t ∧ SI n par (l ++ [p]) t) ∨ (sdW n par l p s = none ∧ ∃ c d, crs n par p = some c ∧ opn n par l c ∧ opn n par l d ∧ c ≠ d ∧ fst_ l c < fst_ l d) := by
  obtain ⟨h1, h2⟩ := h
  have hfr : ∀ c d, opn n par l c → opn n par l d → (fst_ l d < fst_ l c → fst_ (l ++ [p]) d < fst_ (l ++ [p]) c) := fun c d hc hd q => by
    rw [(fst_app hc [p]).1, (fst_app hd [p]).1]; exact q
  unfold sdW
  cases hc : crs n par p with
  | none =>
    left
    refine ⟨s, rfl, fun c => ?_, ?_⟩
    · rw [h1]
      by_cases q : (c % 2 = par ∧ c + 1 < n) ∧ (p = c ∨ p = c + 1)
      · rw [crs_of q.1.1 q.1.2 q.2] at hc; cases hc
      · by_cases q1 : c % 2 = par ∧ c + 1 < n
        · rw [opn_app (fun e => q ⟨q1, Or.inl e⟩) (fun e => q ⟨q1, Or.inr e⟩)]
        · exact ⟨fun x => absurd x.1 q1, fun x => absurd x.1 q1⟩
    · exact List.Pairwise.imp_of_mem (fun ha hb q => hfr _ _ ((h1 _).mp ha) ((h1 _).mp hb) q) h2
  | some c =>
    obtain ⟨⟨k1, k2⟩, k3⟩ := crs_some hp hpar hc
    have hpn : (if p = c then c + 1 else c) = (if p = c then c + 1 else c) := rfl
    by_cases hq : (if p = c then c + 1 else c) ∈ l
    · simp only [List.contains_iff_mem, hq, if_true]
      have hop : opn n par l c := by
        refine ⟨⟨k1, k2⟩, fun q => hn ?_⟩
        rcases k3 with e | e
        · rw [if_pos e] at hq
          rw [e]; exact q.mpr hq
        · rw [if_neg (by omega)] at hq
          rw [e]; exact q.mp hq
      have hcs : c ∈ s := (h1 c).mpr hop
      cases s with
      | nil => exact absurd hcs List.not_mem_nil
      | cons d t =>
        obtain ⟨p1, p2⟩ := List.pairwise_cons.mp h2
        by_cases e : d = c
        · left
          subst e
          refine ⟨t, by simp [popS], fun b => ?_, ?_⟩
          · by_cases e2 : b = d
            · subst e2
              refine ⟨fun x => absurd (p1 b x) (Nat.lt_irrefl _), fun x => ?_⟩
              refine absurd ⟨fun _ => ?_, fun _ => ?_⟩ x.2
              · rcases k3 with e3 | e3
                · rw [if_pos e3] at hq; exact List.mem_append_left _ hq
                · rw [e3]; exact List.mem_append_right _ (List.mem_singleton.mpr rfl)
              · rcases k3 with e3 | e3
                · rw [← e3]; exact List.mem_append_right _ (List.mem_singleton.mpr rfl)
                · rw [if_neg (by omega)] at hq; exact List.mem_append_left _ hq
            · have hb : b ∈ t ↔ b ∈ d :: t := by simp [e2]
              rw [hb, h1]
              by_cases q1 : b % 2 = par ∧ b + 1 < n
              · rw [opn_app (by rcases k3 with rfl | rfl <;> omega) (by rcases k3 with rfl | rfl <;> omega)]
              · exact ⟨fun x => absurd x.1 q1, fun x => absurd x.1 q1⟩
          · exact List.Pairwise.imp_of_mem (fun ha hb q => hfr _ _ ((h1 _).mp (List.mem_cons_of_mem _ ha)) ((h1 _).mp (List.mem_cons_of_mem _ hb)) q) p2
        · right
          refine ⟨by simp [popS, e], c, d, rfl, hop, (h1 d).mp List.mem_cons_self, fun x => e x.symm, ?_⟩
          rcases List.mem_cons.mp hcs with x | x
          · exact absurd x.symm e
          · exact p1 c x
    · left
      simp only [List.contains_iff_mem, hq, if_false]
      have hop : opn n par (l ++ [p]) c := by
        refine ⟨⟨k1, k2⟩, fun q => ?_⟩
        simp only [List.mem_append, List.mem_singleton] at q
        rcases k3 with e | e
        · rw [if_pos e] at hq
          rcases q.mp (Or.inr e.symm) with x | x
          · exact hq x
          · omega
        · rw [if_neg (by omega)] at hq
          rcases q.mpr (Or.inr e.symm) with x | x
          · exact hq x
          · omega
      have hfc : fst_ (l ++ [p]) c = l.length := by
        unfold fst_
        rcases k3 with e | e
        · rw [if_pos e] at hq
          rw [ix_app2 hq, ← e, ix_app2 hn]
          simp
        · rw [if_neg (by omega)] at hq
          rw [ix_app2 hq, ← e, ix_app2 hn]
          simp
      refine ⟨c :: s, by simp, fun b => ?_, ?_⟩
      · by_cases e2 : b = c
        · subst e2
          exact ⟨fun _ => hop, fun _ => List.mem_cons_self⟩
        · have hb : b ∈ c :: s ↔ b ∈ s := by simp [e2]
          rw [hb, h1]
          by_cases q1 : b % 2 = par ∧ b + 1 < n
          · rw [opn_app (by rcases k3 with rfl | rfl <;> omega) (by rcases k3 with rfl | rfl <;> omega)]
          · exact ⟨fun x => absurd x.1 q1, fun x => absurd x.1 q1⟩
      · refine List.pairwise_cons.mpr ⟨fun d hd => ?_, List.Pairwise.imp_of_mem (fun ha hb q => hfr _ _ ((h1 _).mp ha) ((h1 _).mp hb) q) h2⟩
        have := fst_app ((h1 d).mp hd) [p]
        rw [hfc, this.1]; exact this.2
/-! the whole row -/
def Full (n : Nat) (row : List Nat) : Prop := row.Nodup ∧ row.length = n ∧ (∀ p, p < n → p ∈ row) ∧ ∀ p, p ∈ row → p < n
theorem okPt_iff {n u : Nat} {l : List Nat} {p : Nat} : okPt n u l p = true ↔ ¬ p ∈ l ∧ (p = 0 ∨ (p - 1 ∈ l ↔ rsB u (p - 1) = true)) ∧ (p = n - 1 ∨ (p + 1 ∈ l ↔ ¬ rsB u p = true)) := by
  unfold okPt
  rw [Bool.and_eq_true, Bool.and_eq_true, Bool.or_eq_true, Bool.or_eq_true, decide_eq_true_iff, decide_eq_true_iff, Bool.not_eq_true', beq_iff_eq, bne_iff_ne, and_assoc]
  have a1 : l.contains p = false ↔ ¬ p ∈ l := by rw [← List.contains_iff_mem]; simp
  have a2 : (l.contains (p - 1) = rsB u (p - 1)) ↔ (p - 1 ∈ l ↔ rsB u (p - 1) = true) := by
    rw [← List.contains_iff_mem]
    cases l.contains (p - 1) <;> cases rsB u (p - 1) <;> simp
  have a3 : (l.contains (p + 1) ≠ rsB u p) ↔ (p + 1 ∈ l ↔ ¬ rsB u p = true) := by
    rw [← List.contains_iff_mem]
    cases l.contains (p + 1) <;> cases rsB u p <;> simp
  rw [a1, a2, a3]
/-- no part is wrong in a pile that stands -/
theorem st_ok {n u : Nat} {l r : List Nat} {p : Nat} (hF : Full n (l ++ p :: r)) (hS : St n u (fun q => (l ++ p :: r).idxOf q)) : okPt n u l p = true := by
  obtain ⟨f1, f2, f3, f4⟩ := hF
  have hpl : ¬ p ∈ l := by
    intro q
    have := (List.nodup_append.mp f1).2.2 p q p List.mem_cons_self
    exact this rfl
  have hp : p < n := f4 p (by simp)
  have ip : (l ++ p :: r).idxOf p = l.length := by rw [ix_app2 hpl]; simp
  have hin : ∀ x, x < n → x ≠ p → (x ∈ l ↔ (l ++ p :: r).idxOf x < l.length) := by
    intro x hx hne
    by_cases q : x ∈ l
    · rw [ix_app q]; exact ⟨fun _ => ix_lt q, fun _ => q⟩
    · rw [ix_app2 q]; exact ⟨fun y => absurd y q, fun y => by omega⟩
  have hne : ∀ x, x < n → x ≠ p → (l ++ p :: r).idxOf x ≠ l.length := by
    intro x hx hne e
    exact hne (ix_inj (f3 x hx) (f3 p hp) (e.trans ip.symm))
  rw [okPt_iff]
  refine ⟨hpl, ?_, ?_⟩
  · by_cases e : p = 0
    · exact Or.inl e
    · right
      have h := hS.1 (p - 1) (by omega)
      simp only [show p - 1 + 1 = p by omega, ip] at h
      rw [hin (p - 1) (by omega) (by omega)]
      exact h
  · by_cases e : p = n - 1
    · exact Or.inl e
    · right
      have h := hS.1 p (by omega)
      simp only [ip] at h
      rw [hin (p + 1) (by omega) (by omega), ← h]
      have := hne (p + 1) (by omega) (by omega)
      omega
/-- nor does a crease of it cross another -/
theorem st_side {n u par : Nat} {l r s : List Nat} {p : Nat} (hpar : par < 2) (hF : Full n (l ++ p :: r)) (hS : St n u (fun q => (l ++ p :: r).idxOf q)) (h : SI n par l s) : ∃ t, sdW n par l p s = some t := by
  obtain ⟨f1, f2, f3, f4⟩ := hF
  have hpl : ¬ p ∈ l := by
    intro q
    have := (List.nodup_append.mp f1).2.2 p q p List.mem_cons_self
    exact this rfl
  have hp : p < n := f4 p (by simp)
  rcases SI_step hpar h hp hpl with ⟨t, e, -⟩ | ⟨-, c, d, k1, k2, k3, k4, k5⟩
  · exact ⟨t, e⟩
  · exfalso
    obtain ⟨-, k6⟩ := crs_some hp hpar k1
    have ip : (l ++ p :: r).idxOf p = l.length := by rw [ix_app2 hpl]; simp
    have hlt : ∀ x, x ∈ l → (l ++ p :: r).idxOf x = l.idxOf x ∧ l.idxOf x < l.length := fun x q => ⟨ix_app q, ix_lt q⟩
    have hge : ∀ x, ¬ x ∈ l → x < n → x ≠ p → l.length < (l ++ p :: r).idxOf x := by
      intro x q hx hne
      have e1 : (l ++ p :: r).idxOf x ≠ l.length := fun e => hne (ix_inj (f3 x hx) (f3 p hp) (e.trans ip.symm))
      have e2 := ix_app2 (r := p :: r) q
      omega
    -- the crease c ends at p, its other part lies in l; d has one part in l, above c's, the other above p
    have hd1 : d ≠ p ∧ d + 1 ≠ p := by
      have a1 := k3.1
      have a2 := k2.1
      constructor <;> intro e <;> rcases k6 with x | x <;> omega
    obtain ⟨P, hP⟩ : ∃ P, P = (fun q => (l ++ p :: r).idxOf q) := ⟨_, rfl⟩
    have hc : (P c = fst_ l c ∧ P (c + 1) = l.length) ∨ (P (c + 1) = fst_ l c ∧ P c = l.length) := by
      simp only [hP]
      rcases k6 with x | x
      · have q2 : c + 1 ∈ l := Decidable.not_not.mp fun q => k2.2 ⟨fun y => absurd (x ▸ y) hpl, fun y => absurd y q⟩
        right
        refine ⟨?_, by rw [← x]; exact ip⟩
        unfold fst_
        have := hlt _ q2
        rw [this.1, show l.idxOf c = l.length by rw [← x]; exact ix_no hpl]
        omega
      · have q2 : c ∈ l := Decidable.not_not.mp fun q => k2.2 ⟨fun y => absurd y q, fun y => absurd (x ▸ y) hpl⟩
        left
        refine ⟨?_, by rw [← x]; exact ip⟩
        unfold fst_
        have := hlt _ q2
        rw [this.1, ← x, ix_no hpl]
        omega
    have hd : (P d = fst_ l d ∧ l.length < P (d + 1)) ∨ (P (d + 1) = fst_ l d ∧ l.length < P d) := by
      simp only [hP]
      by_cases q1 : d ∈ l
      · have q2 : ¬ d + 1 ∈ l := fun q => k3.2 ⟨fun _ => q, fun _ => q1⟩
        left
        refine ⟨?_, hge _ q2 k3.1.2 hd1.2⟩
        unfold fst_
        have := hlt _ q1
        rw [this.1, ix_no q2]
        omega
      · have q2 : d + 1 ∈ l := Decidable.not_not.mp fun q => k3.2 ⟨fun y => absurd y q1, fun y => absurd y q⟩
        right
        refine ⟨?_, hge _ q1 (by have := k3.1.2; omega) hd1.1⟩
        unfold fst_
        have := hlt _ q2
        rw [this.1, ix_no q1]
        omega
    have hfl := (fst_app k3 []).2
    rw [← hP] at hS
    rcases Nat.lt_or_gt_of_ne k4 with q | q
    · have h := hS.2 c d q (by have := k2.1.1; have := k3.1.1; omega) k3.1.2
      unfold btw at h
      omega
    · have h := hS.2 d c q (by have := k2.1.1; have := k3.1.1; omega) k2.1.2
      unfold btw at h
      omega
/-- a row that is never wrong stands -/
theorem ok_st1 {n u : Nat} {row : List Nat} (hF : Full n row) (h : ∀ l p r, row = l ++ p :: r → okPt n u l p = true) : ∀ i, i + 1 < n → (row.idxOf i < row.idxOf (i + 1) ↔ rsB u i = true) := by
  intro i hi
  obtain ⟨f1, f2, f3, f4⟩ := hF
  obtain ⟨l, r, e⟩ := List.append_of_mem (f3 (i + 1) hi)
  have k := okPt_iff.mp (h l (i + 1) r e)
  obtain ⟨k1, k2, -⟩ := k
  rcases k2 with k2 | k2
  · omega
  · rw [show i + 1 - 1 = i by omega] at k2
    rw [← k2, e, ix_app2 k1]
    by_cases q : i ∈ l
    · have := ix_lt q
      rw [ix_app q]
      simp only [q, iff_true]
      simp
      omega
    · rw [ix_app2 q]
      simp only [q, iff_false]
      simp
theorem ok_st2 {n par : Nat} {row : List Nat} (hpar : par < 2) (hF : Full n row) (h : ∀ l p r, row = l ++ p :: r → ∃ s, SI n par l s ∧ ∃ t, sdW n par l p s = some t) {i j : Nat} (hi : i % 2 = par) (hj : j % 2 = par) (hi2 : i + 1 < n) (hj2 : j + 1 < n) (hij : i ≠ j)
    (h1 : fst_ row i < fst_ row j) (h2 : fst_ row j < max (row.idxOf i) (row.idxOf (i + 1))) (h3 : max (row.idxOf i) (row.idxOf (i + 1)) < max (row.idxOf j) (row.idxOf (j + 1))) : False := by
  obtain ⟨f1, f2, f3, f4⟩ := hF
  -- the part at which i ends
  obtain ⟨p, hp, hpi⟩ : ∃ p, (p = i ∨ p = i + 1) ∧ row.idxOf p = max (row.idxOf i) (row.idxOf (i + 1)) := by
    rcases Nat.le_total (row.idxOf i) (row.idxOf (i + 1)) with q | q
    · exact ⟨i + 1, Or.inr rfl, by omega⟩
    · exact ⟨i, Or.inl rfl, by omega⟩
  have hpn : p < n := by omega
  obtain ⟨l, r, e⟩ := List.append_of_mem (f3 p hpn)
  have hpl : ¬ p ∈ l := by
    intro q
    rw [e] at f1
    exact (List.nodup_append.mp f1).2.2 p q p List.mem_cons_self rfl
  have ip : row.idxOf p = l.length := by rw [e, ix_app2 hpl]; simp
  have hin : ∀ x, x < n → x ≠ p → (x ∈ l ↔ row.idxOf x < l.length) := by
    intro x hx hne
    rw [e]
    by_cases q : x ∈ l
    · rw [ix_app q]; exact ⟨fun _ => ix_lt q, fun _ => q⟩
    · rw [ix_app2 q]; exact ⟨fun y => absurd y q, fun y => by omega⟩
  have hne : ∀ x y, x < n → y < n → x ≠ y → row.idxOf x ≠ row.idxOf y := fun x y hx hy q1 q2 => q1 (ix_inj (f3 x hx) (f3 y hy) q2)
  have n1 := hne i (i + 1) (by omega) hi2 (by omega)
  have n2 := hne j (j + 1) (by omega) hj2 (by omega)
  have n3 := hne i j (by omega) (by omega) hij
  have n4 := hne i (j + 1) (by omega) hj2 (by omega)
  have n5 := hne (i + 1) j hi2 (by omega) (by omega)
  have n6 := hne (i + 1) (j + 1) hi2 hj2 (by omega)
  unfold fst_ at h1 h2
  have oi : opn n par l i := by
    refine ⟨⟨hi, hi2⟩, fun q => ?_⟩
    rcases hp with rfl | rfl
    · have := hin (p + 1) hi2 (by omega)
      exact hpl (q.mpr (this.mpr (by omega)))
    · have := hin i (by omega) (by omega)
      exact hpl (q.mp (this.mpr (by omega)))
  have oj : opn n par l j := by
    refine ⟨⟨hj, hj2⟩, fun q => ?_⟩
    have a1 := hin j (by omega) (by omega)
    have a2 := hin (j + 1) hj2 (by omega)
    rw [a1, a2] at q
    omega
  obtain ⟨s, ⟨s1, s2⟩, t, ht⟩ := h l p r e
  have hcr : crs n par p = some i := crs_of hi hi2 hp
  have hq : (if p = i then i + 1 else i) ∈ l := by
    rcases hp with rfl | rfl
    · rw [if_pos rfl]; exact (hin _ hi2 (by omega)).mpr (by omega)
    · rw [if_neg (by omega)]; exact (hin _ (by omega) (by omega)).mpr (by omega)
  unfold sdW at ht
  rw [hcr] at ht
  simp only [List.contains_iff_mem, hq, if_true] at ht
  have his := (s1 i).mpr oi
  have hjs := (s1 j).mpr oj
  cases s with
  | nil => exact absurd his List.not_mem_nil
  | cons d t' =>
    obtain ⟨p1, -⟩ := List.pairwise_cons.mp s2
    by_cases ed : d = i
    · subst ed
      rcases List.mem_cons.mp hjs with x | x
      · exact hij x.symm
      · have b1 := p1 j x
        have b2 := fst_app oi (p :: r)
        have b3 := fst_app oj (p :: r)
        rw [← e] at b2 b3
        unfold fst_ at b1 b2 b3
        omega
    · simp [popS, ed] at ht
theorem ok_st {n u : Nat} {row : List Nat} (hF : Full n row) (h : ∀ l p r, row = l ++ p :: r → okPt n u l p = true) (h0 : ∀ l p r, row = l ++ p :: r → ∃ s, SI n 0 l s ∧ ∃ t, sdW n 0 l p s = some t) (h1 : ∀ l p r, row = l ++ p :: r → ∃ s, SI n 1 l s ∧ ∃ t, sdW n 1 l p s = some t) : St n u (fun p => row.idxOf p) := by
  refine ⟨ok_st1 hF h, fun i j hij hp hj => ?_⟩
  have hs : ∀ par, par < 2 → ∀ l p r, row = l ++ p :: r → ∃ s, SI n par l s ∧ ∃ t, sdW n par l p s = some t := by
    intro par hpar
    obtain rfl | rfl : par = 0 ∨ par = 1 := by omega
    · exact h0
    · exact h1
  have hx := hs (i % 2) (by omega)
  have a : ¬ (fst_ row i < fst_ row j ∧ fst_ row j < max (row.idxOf i) (row.idxOf (i + 1)) ∧ max (row.idxOf i) (row.idxOf (i + 1)) < max (row.idxOf j) (row.idxOf (j + 1))) := fun q => ok_st2 (i := i) (j := j) (by omega) hF hx rfl hp (by omega) hj (by omega) q.1 q.2.1 q.2.2
  have b : ¬ (fst_ row j < fst_ row i ∧ fst_ row i < max (row.idxOf j) (row.idxOf (j + 1)) ∧ max (row.idxOf j) (row.idxOf (j + 1)) < max (row.idxOf i) (row.idxOf (i + 1))) := fun q => ok_st2 (i := j) (j := i) (by omega) hF hx hp rfl hj (by omega) (by omega) q.1 q.2.1 q.2.2
  obtain ⟨f1, f2, f3, f4⟩ := hF
  have hne : ∀ x y, x < n → y < n → x ≠ y → row.idxOf x ≠ row.idxOf y := fun x y hx hy q1 q2 => q1 (ix_inj (f3 x hx) (f3 y hy) q2)
  have n1 := hne i (i + 1) (by omega) (by omega) (by omega)
  have n2 := hne j (j + 1) (by omega) hj (by omega)
  have n3 := hne i j (by omega) (by omega) (by omega)
  have n4 := hne i (j + 1) (by omega) hj (by omega)
  have n5 := hne (i + 1) j (by omega) (by omega) (by omega)
  have n6 := hne (i + 1) (j + 1) (by omega) hj (by omega)
  unfold fst_ at a b
  unfold btw
  dsimp only
  omega
/-! all rows -/
theorem nd_len : ∀ (n : Nat) (l : List Nat), l.Nodup → (∀ x, x ∈ l → x < n) → l.length ≤ n
  | 0, l, _, h => by
    cases l with
    | nil => exact Nat.le_refl _
    | cons a t => exact absurd (h a List.mem_cons_self) (by omega)
  | n + 1, l, hd, h => by
    by_cases q : n ∈ l
    · have h1 := nd_len n (l.erase n) (hd.erase n) (fun x hx => by
        have a1 := h x (List.mem_of_mem_erase hx)
        have a2 : x ≠ n := fun e => by
          rw [e] at hx
          exact (List.Nodup.not_mem_erase hd) hx
        omega)
      rw [List.length_erase_of_mem q] at h1
      omega
    · have h1 := nd_len n l hd (fun x hx => by
        have a1 := h x hx
        have a2 : x ≠ n := fun e => q (e ▸ hx)
        omega)
      omega
theorem fm_congr {α β : Type} {f g : α → List β} : ∀ (l : List α), (∀ x, x ∈ l → f x = g x) → l.flatMap f = l.flatMap g
  | [], _ => rfl
  | a :: t, h => by
    rw [List.flatMap_cons, List.flatMap_cons, h a List.mem_cons_self, fm_congr t fun x hx => h x (List.mem_cons_of_mem _ hx)]
theorem compR_full {n : Nat} : ∀ (m : Nat) (l : List Nat), l.length + m = n → l.Nodup → (∀ p, p ∈ l → p < n) → ∀ row, row ∈ compR n m l → Full n row ∧ ∃ r, row = l ++ r
  | 0, l, hl, hd, hb, row, h => by
    unfold compR at h
    obtain rfl := List.mem_singleton.mp h
    refine ⟨⟨hd, by omega, fun p hp => ?_, hb⟩, [], by simp⟩
    apply Decidable.byContradiction
    intro q
    have h1 : (p :: row).Nodup := List.nodup_cons.mpr ⟨q, hd⟩
    have h2 : (p :: row).length ≤ n := nd_len n _ h1 (fun x hx => by
      rcases List.mem_cons.mp hx with rfl | x2
      · exact hp
      · exact hb x x2)
    rw [List.length_cons] at h2
    omega
  | m + 1, l, hl, hd, hb, row, h => by
    unfold compR at h
    obtain ⟨p, hp, h2⟩ := List.mem_flatMap.mp h
    by_cases q : p ∈ l
    · simp [q] at h2
    · simp only [List.contains_iff_mem, q, if_false] at h2
      obtain ⟨a, r, e⟩ := compR_full (n := n) m (l ++ [p]) (by rw [List.length_append, List.length_singleton]; omega) (List.nodup_append.mpr ⟨hd, by simp, fun x hx y hy => by rw [List.mem_singleton.mp hy]; exact fun z => q (z ▸ hx)⟩) (fun x hx => by
        rcases List.mem_append.mp hx with x2 | x2
        · exact hb x x2
        · rw [List.mem_singleton.mp x2]; exact List.mem_range.mp hp) row (by simpa using h2)
      exact ⟨a, p :: r, by rw [e]; simp⟩
/-- the search that prunes finds the rows that stand, in the same order -/
theorem comp_eq {n u : Nat} : ∀ (m : Nat) (l se so : List Nat), l.length + m = n → l.Nodup → (∀ p, p ∈ l → p < n) → SI n 0 l se → SI n 1 l so →
    (∀ a p b, l = a ++ p :: b → okPt n u a p = true ∧ (∃ s, SI n 0 a s ∧ ∃ t, sdW n 0 a p s = some t) ∧ ∃ s, SI n 1 a s ∧ ∃ t, sdW n 1 a p s = some t) → compC n u m l se so = (compR n m l).filter (stB n u)
  | 0, l, se, so, hl, hd, hb, h0, h1, hk => by
    have hF := (compR_full 0 l hl hd hb l (by unfold compR; simp)).1
    unfold compC compR
    rw [List.filter_cons_of_pos]
    · rfl
    · rw [stB_iff]
      exact ok_st hF (fun a p b e => (hk a p b e).1) (fun a p b e => (hk a p b e).2.1) (fun a p b e => (hk a p b e).2.2)
  | m + 1, l, se, so, hl, hd, hb, h0, h1, hk => by
    unfold compC compR
    rw [List.filter_flatMap]
    refine fm_congr _ fun p hp => ?_
    have hpn : p < n := List.mem_range.mp hp
    · by_cases q : p ∈ l
      · have : ¬ okPt n u l p = true := fun x => (okPt_iff.mp x).1 q
        simp [q, this]
      · have hd2 : (l ++ [p]).Nodup := List.nodup_append.mpr ⟨hd, by simp, fun x hx y hy => by rw [List.mem_singleton.mp hy]; exact fun z => q (z ▸ hx)⟩
        have hb2 : ∀ x, x ∈ l ++ [p] → x < n := fun x hx => by
          rcases List.mem_append.mp hx with x2 | x2
          · exact hb x x2
          · rw [List.mem_singleton.mp x2]; exact hpn
        have hno : (¬ (okPt n u l p = true ∧ (∃ t, sdW n 0 l p se = some t) ∧ ∃ t, sdW n 1 l p so = some t)) → (compR n m (l ++ [p])).filter (stB n u) = [] := by
          intro hx
          rw [List.filter_eq_nil_iff]
          intro row hrow hst
          obtain ⟨a, r, e⟩ := compR_full (n := n) m (l ++ [p]) (by rw [List.length_append, List.length_singleton]; omega) hd2 hb2 row hrow
          have e2 : row = l ++ p :: r := by rw [e]; simp
          subst e2
          have hS := stB_iff.mp hst
          exact hx ⟨st_ok a hS, st_side (by decide) a hS h0, st_side (by decide) a hS h1⟩
        simp only [List.contains_iff_mem, q, if_false]
        by_cases c1 : okPt n u l p = true
        · rw [if_pos c1]
          cases c2 : sdW n 0 l p se with
          | none =>
            rw [hno]
            rintro ⟨-, ⟨t, ht⟩, -⟩
            rw [c2] at ht; cases ht
          | some a =>
            cases c3 : sdW n 1 l p so with
            | none =>
              rw [hno]
              rintro ⟨-, -, t, ht⟩
              rw [c3] at ht; cases ht
            | some b =>
              have s0 : SI n 0 (l ++ [p]) a := by
                rcases SI_step (by decide) h0 hpn q with ⟨t, e, e2⟩ | ⟨e, -⟩
                · rw [c2] at e; cases e; exact e2
                · rw [c2] at e; cases e
              have s1 : SI n 1 (l ++ [p]) b := by
                rcases SI_step (by decide) h1 hpn q with ⟨t, e, e2⟩ | ⟨e, -⟩
                · rw [c3] at e; cases e; exact e2
                · rw [c3] at e; cases e
              refine comp_eq m (l ++ [p]) a b (by rw [List.length_append, List.length_singleton]; omega) hd2 hb2 s0 s1 fun x y z e => ?_
              by_cases hz : z = []
              · subst hz
                obtain ⟨e1, e2⟩ := List.append_inj' e rfl
                cases e2
                subst e1
                exact ⟨c1, ⟨se, h0, a, c2⟩, so, h1, b, c3⟩
              · obtain ⟨z', w, rfl⟩ : ∃ z' w, z = z' ++ [w] := ⟨z.dropLast, z.getLast hz, (List.dropLast_concat_getLast hz).symm⟩
                have e3 : l ++ [p] = (x ++ y :: z') ++ [w] := by rw [e]; simp
                obtain ⟨e1, e2⟩ := List.append_inj' e3 rfl
                exact hk x y z' e1
        · rw [if_neg c1, hno]
          exact fun x => c1 x.1
