/-! which part of the program a place of the memory belongs to: 1 strips, 2 the sail, 3 the voyage, 4 rules and their reader, 5 hidden coats, 6 the net, 7 the catalog; 0 is nobody's: no later call reads what stands there -/
def mdf (j : Nat) : Nat := if j = 0 then 0 else if j ≤ 3 then 1 else if j < 9 then 0 else if j ≤ 12 then 2 else if j < 24 then 0 else if j ≤ 28 then 3 else if j < 35 then 0 else if j ≤ 38 then 4 else if j = 41 then 3 else if j = 48 then 5 else if j = 49 then 5 else if j = 57 then 6 else if j = 58 then 6 else if j = 59 then 7 else 0
def mdc (c : Nat) : Nat := if c ≤ 0 then 4 else if c ≤ 3 then 1 else if c ≤ 5 then 0 else if c ≤ 8 then 2 else if c ≤ 13 then 0 else if c ≤ 18 then 3 else if c = 19 then 0 else if c ≤ 25 then 4 else if c = 26 then 0 else if c ≤ 32 then 5 else if c = 36 then 5 else if c ≤ 39 then 0 else if c ≤ 48 then 6 else if c ≤ 60 then 0 else if c ≤ 65 then 7 else if c ≤ 67 then 0 else if c ≤ 71 then 4 else if c ≤ 73 then 0 else if c = 74 then 1 else if c ≤ 77 then 0 else if c = 78 then 1 else if c ≤ 89 then 2 else if c ≤ 92 then 3 else if c ≤ 176 then 0 else if c ≤ 178 then 4 else if c ≤ 184 then 3 else if c ≤ 189 then 5 else if c ≤ 191 then 0 else if c ≤ 198 then 6 else if c ≤ 214 then 0 else if c ≤ 218 then 7 else 0
def mdk (q : Option (Nat × Nat)) : Nat := match q with
  | some q => if q.1 = 5 then 2 else if q.1 = 10 then 3 else if q.1 = 1 then 3 else if q.1 = 14 then 3 else 0
  | none => 0
def md (sh : px_Sh) (c j : Nat) : Nat := if c < 220 then (if c = 73 then mdf j else mdc c) else mdk (sh c)
theorem md_d {sh : px_Sh} {c : Nat} (h : 220 ≤ c) (j : Nat) : md sh c j = mdk (sh c) := if_neg (by omega)
theorem md_5 {sh : px_Sh} {c : Nat} (h : 220 ≤ c) (hs : sh c = some (5, 0)) (j : Nat) : md sh c j = 2 := by rw [md_d h, hs]; rfl
theorem md_10 {sh : px_Sh} {c : Nat} (h : 220 ≤ c) (hs : sh c = some (10, 0)) (j : Nat) : md sh c j = 3 := by rw [md_d h, hs]; rfl
theorem md_1 {sh : px_Sh} {c : Nat} (h : 220 ≤ c) (hs : sh c = some (1, 0)) (j : Nat) : md sh c j = 3 := by rw [md_d h, hs]; rfl
theorem md_14 {sh : px_Sh} {c k : Nat} (h : 220 ≤ c) (hs : sh c = some (14, k)) (j : Nat) : md sh c j = 3 := by rw [md_d h, hs]; rfl
/-- f' is f but in the parts ks and in what is nobody's -/
def kp {α : Type} (sh : px_Sh) (ks : List Nat) (f f' : Nat → Nat → α) : Prop := ∀ c j, md sh c j ∉ 0 :: ks → f' c j = f c j
theorem kp.rf {α : Type} {sh : px_Sh} {ks : List Nat} {f : Nat → Nat → α} : kp sh ks f f := fun _ _ _ => rfl
theorem kp.tr {α : Type} {sh : px_Sh} {ks : List Nat} {f g k : Nat → Nat → α} (h : kp sh ks f g) (h2 : kp sh ks g k) : kp sh ks f k := fun c j q => (h2 c j q).trans (h c j q)
theorem kp.u {α : Type} {sh : px_Sh} {ks : List Nat} {f g : Nat → Nat → α} (h : kp sh ks f g) {c j : Nat} {v : α} (k : Nat) (e : md sh c j = k) (hk : k ∈ 0 :: ks) : kp sh ks f (px_u g c j v) := by
  intro a b hn
  by_cases q : a = c ∧ b = j
  · rw [q.1, q.2, e] at hn
    exact absurd hk hn
  · exact (if_neg q).trans (h a b hn)
theorem kp.mono {α : Type} {sh : px_Sh} {ks ls : List Nat} {f g : Nat → Nat → α} (h : kp sh ks f g) (hs : ∀ k, k ∈ 0 :: ks → k ∈ 0 :: ls) : kp sh ls f g := fun c j q => h c j fun r => q (hs _ r)
theorem kp.at {α : Type} {sh : px_Sh} {ks : List Nat} {f g : Nat → Nat → α} (h : kp sh ks f g) {c j : Nat} (k : Nat) (e : md sh c j = k) (hk : k ∉ 0 :: ks) : g c j = f c j := h c j (by rw [e]; exact hk)
/-- all places of the part k are the same -/
def sm_ {α : Type} (sh : px_Sh) (k : Nat) (f f' : Nat → Nat → α) : Prop := ∀ c j, md sh c j = k → f' c j = f c j
theorem kp.sm {α : Type} {sh : px_Sh} {ks : List Nat} {f g : Nat → Nat → α} (h : kp sh ks f g) {k : Nat} (hk : k ∉ 0 :: ks) : sm_ sh k f g := fun c j e => h.at k e hk
/-! folds, and loops that count up -/
def fld {σ : Type} (g : Nat → σ → σ) (i : Nat) : Nat → σ → σ
  | 0, s => s
  | m + 1, s => fld g (i + 1) m (g i s)
theorem fld_congr {σ : Type} {g k : Nat → σ → σ} : ∀ (m i : Nat) (s : σ), (∀ j, i ≤ j → j < i + m → ∀ s, g j s = k j s) → fld g i m s = fld k i m s
  | 0, _, _, _ => rfl
  | m + 1, i, s, h => by
    unfold fld
    rw [h i (by omega) (by omega)]
    exact fld_congr m (i + 1) _ fun j h1 h2 => h j (by omega) (by omega)
theorem fld_add {σ : Type} (g : Nat → σ → σ) : ∀ (m k i : Nat) (s : σ), fld g i (m + k) s = fld g (i + m) k (fld g i m s)
  | 0, k, i, s => by rw [Nat.zero_add]; rfl
  | m + 1, k, i, s => by
    rw [show m + 1 + k = (m + k) + 1 by omega]
    show fld g (i + 1) (m + k) (g i s) = _
    rw [fld_add g m k (i + 1), show i + 1 + m = i + (m + 1) by omega]
    rfl
theorem fld_last {σ : Type} (g : Nat → σ → σ) (m i : Nat) (s : σ) : fld g i (m + 1) s = g (i + m) (fld g i m s) := fld_add g m 1 i s
theorem lpf_for {α β σ : Type} {body : α → Option (α ⊕ β)} (st : Nat → σ → α) (g : Nat → σ → σ) (P : Nat → σ → Prop) (r : σ → β) (N : Nat)
    (hs : ∀ i s, i < N → P i s → body (st i s) = some (.inl (st (i + 1) (g i s))) ∧ P (i + 1) (g i s)) (he : ∀ s, P N s → body (st N s) = some (.inr (r s))) :
    ∀ (m i : Nat) (s : σ), i + m = N → P i s → lpf body (st i s) = some (r (fld g i m s)) ∧ P N (fld g i m s)
  | 0, i, s, hm, h => by
    obtain rfl : i = N := by omega
    exact ⟨lpf_end (he s h), h⟩
  | m + 1, i, s, hm, h => by
    obtain ⟨h1, h2⟩ := hs i s (by omega) h
    rw [lpf_go h1]
    exact lpf_for st g P r N hs he m (i + 1) _ (by omega) h2
/-- a loop that counts up and may leave early: it leaves at the first i with c i -/
theorem lpf_find {α β : Type} {body : α → Option (α ⊕ β)} (st : Nat → α) (N : Nat) (c : Nat → Prop) (r : Nat → β) (z : β)
    (hs : ∀ i, i < N → ¬ c i → body (st i) = some (.inl (st (i + 1)))) (hf : ∀ i, i < N → c i → body (st i) = some (.inr (r i))) (he : body (st N) = some (.inr z)) :
    ∀ (m i : Nat), i + m = N → (lpf body (st i) = some z ∧ ∀ j, i ≤ j → j < N → ¬ c j) ∨ ∃ j, i ≤ j ∧ j < N ∧ c j ∧ (∀ k, i ≤ k → k < j → ¬ c k) ∧ lpf body (st i) = some (r j)
  | 0, i, hm => by
    obtain rfl : i = N := by omega
    exact Or.inl ⟨lpf_end he, fun j h1 h2 => absurd h1 (by omega)⟩
  | m + 1, i, hm => by
    by_cases q : c i
    · exact Or.inr ⟨i, Nat.le_refl _, by omega, q, fun k h1 h2 => absurd h1 (by omega), lpf_end (hf i (by omega) q)⟩
    · rw [lpf_go (hs i (by omega) q)]
      rcases lpf_find st N c r z hs hf he m (i + 1) (by omega) with ⟨h1, h2⟩ | ⟨j, h1, h2, h3, h4, h5⟩
      · refine Or.inl ⟨h1, fun j a b => ?_⟩
        by_cases e : j = i
        · rw [e]; exact q
        · exact h2 j (by omega) b
      · refine Or.inr ⟨j, by omega, h2, h3, fun k a b => ?_, h5⟩
        by_cases e : k = i
        · rw [e]; exact q
        · exact h4 k (by omega) b
/-! small things -/
theorem rng (v : Int32) {k : Nat} (hk : k < 2 ^ 30) : (∃ j, j < k ∧ v = nI j ∧ f_X11_within v 0 (nI k - 1) = some 1 ∧ f_X12_in v 0 (nI k - 1) = some 1) ∨ ((∀ j, j < k → v ≠ nI j) ∧ f_X11_within v 0 (nI k - 1) = some 0 ∧ f_X12_in v 0 (nI k - 1) = some 0) := by
  have e : (nI k - 1).toInt = (k : Int) - 1 := pk_sub_toInt (b := 1) hk (by decide)
  rw [e_within, e_in]
  rcases pk_ix v (n := k) (by omega) with h | h | ⟨j, hj, rfl⟩
  · right
    have hn : ¬ (0 ≤ v ∧ v ≤ nI k - 1) := fun q => Int32.not_le.mpr h q.1
    rw [bI_f hn]
    refine ⟨fun j hj q => ?_, rfl, rfl⟩
    rw [q] at h
    exact nI_pos (by omega) h
  · right
    have hn : ¬ (0 ≤ v ∧ v ≤ nI k - 1) := fun q => by
      have h1 := Int32.le_iff_toInt_le.mp q.2
      have h2 := Int32.le_iff_toInt_le.mp h
      rw [nI_toInt (by omega)] at h2
      omega
    rw [bI_f hn]
    refine ⟨fun j hj q => ?_, rfl, rfl⟩
    rw [q] at h
    exact nI_ge hj (by omega) h
  · left
    refine ⟨j, hj, rfl, ?_, ?_⟩ <;> rw [bI_t (in_of hj (by omega))]
theorem e_max (a b : Int32) : f_J9_max_7cf53 a b = some (if a < b then b else a) := by
  unfold f_J9_max_7cf53 f_J9_max_7cf53_10
  split <;> rfl
theorem e_min (a b : Int32) : f_J9_min_7cf53 a b = some (if b < a then b else a) := by
  unfold f_J9_min_7cf53 f_J9_min_7cf53_10
  split <;> rfl
theorem ixk {i n : Nat} (h : i < n) (hn : n < 2 ^ 31) : ix (nI i) n = true ∧ (nI i).toNatClampNeg = i := ⟨ix_k h hn, nI_clamp (by omega)⟩
theorem nI_eq' {a b : Nat} (ha : a < 2 ^ 31) (hb : b < 2 ^ 31) (h : a ≠ b) : ¬ nI a = nI b := fun q => h ((nI_eq ha hb).mp q)
theorem zb_of {x : Int32} (h : zb x = true) : x = 0 ∨ x = 1 := by
  unfold zb at h
  rw [Bool.or_eq_true, beq_iff_eq, beq_iff_eq] at h
  exact h
