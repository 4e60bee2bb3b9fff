/-! the class takes a stand: forces, their sum, the strings that pull -/
theorem j_abs {v : Int} (hv : rg v) : f_J9_abs_067f4 (lI v) = some (lI (v.natAbs : Int)) := by
  unfold f_J9_abs_067f4 f_J9_abs_067f4_12
  by_cases h : 0 ≤ v
  · rw [if_pos ((lc_ge hv).mpr h), show (v.natAbs : Int) = v by omega]
  · rw [if_neg (fun z => h ((lc_ge hv).mp z)), lI_neg, show (v.natAbs : Int) = -v by omega]
def mkb (st : Nat) (X : Nat → Int) : Nat → Int32
  | 0 => 0
  | s + 1 => if st.testBit s = true then mkb st X s ||| (if X s ≤ 0 then (0 : Int32) else (1 : Int32) <<< (nI s &&& 31)) else mkb st X s
theorem one_bit : ∀ s, s < 6 → ∀ t, t < 6 → (((1 : Int32) <<< (nI s &&& 31)) >>> (nI t &&& 31) &&& 1 = 1 ↔ s = t) := by decide
theorem mkb_bit (st : Nat) (X : Nat → Int) {t : Nat} (ht : t < 6) : ∀ s, s ≤ 6 → ((mkb st X s >>> (nI t &&& 31)) &&& 1 = 1 ↔ t < s ∧ st.testBit t = true ∧ 0 < X t)
  | 0, _ => ⟨fun h => absurd h (b32_0 (by omega)), fun h => absurd h.1 (by omega)⟩
  | s + 1, hs => by
    have ih := mkb_bit st X ht s (by omega)
    unfold mkb
    by_cases hb : st.testBit s = true
    · rw [if_pos hb, b32_or _ _ (show t < 31 by omega), ih]
      by_cases hx : X s ≤ 0
      · rw [if_pos hx]
        constructor
        · rintro (h | h)
          · exact ⟨by omega, h.2⟩
          · exact absurd h (b32_0 (by omega))
        · rintro ⟨h1, h2, h3⟩
          by_cases e : t = s
          · subst e; omega
          · exact Or.inl ⟨by omega, h2, h3⟩
      · rw [if_neg hx, one_bit s (by omega) t ht]
        constructor
        · rintro (h | h)
          · exact ⟨by omega, h.2⟩
          · subst h; exact ⟨by omega, hb, by omega⟩
        · rintro ⟨h1, h2, h3⟩
          by_cases e : s = t
          · exact Or.inr e
          · exact Or.inl ⟨by omega, h2, h3⟩
    · rw [if_neg hb, ih]
      constructor
      · rintro ⟨h1, h2⟩; exact ⟨by omega, h2⟩
      · rintro ⟨h1, h2, h3⟩
        by_cases e : t = s
        · subst e; exact absurd h2 hb
        · exact ⟨by omega, h2, h3⟩
/-- the forces of the strings as the class holds them -/
def xo (st : Nat) (X : Nat → Int) (t : Nat) : Int := if st.testBit t = true then X t else 0
section TS
variable {sh : px_Sh} {M : px_M} {R : px_R} {A : Nat → Nat → Int} {st m nt : Nat}
theorem c_forces (hh : hsh sh) (hk : ∀ k, k < 6 → Spa A k) (h6 : ∀ x, (A x 6).natAbs ≤ 100) (hnt : nt ≤ 6) (hst : st < 2 ^ nt) (hm : m ≤ 12) (h8 : M 40 8 = nI nt) (h17 : M 40 17 = nI (cl st).length) (hnm : (cl st).length ≤ m) {lb bb : Nat → Nat} {L : px_L} (hI : EI A st m sh (cl st).length lb bb L R) :
    lpf (fun a : Int64 × Int32 × Int32 × Int32 => f_X4_takeStand_11 sh M L R (nI st) a.1 a.2.1 a.2.2.1 a.2.2.2) (0, 0, 0, 0) = some (lI (sN nt (xo st fun t => ((Te A st lb (cl st).length (cN st t) (cl st).length).natAbs : Int))), mkb st (fun t => ((Te A st lb (cl st).length (cN st t) (cl st).length).natAbs : Int)) nt) := by
  obtain ⟨hP, hlb, hpc, h18, hT⟩ := hI
  have hst64 : st < 64 := Nat.lt_of_lt_of_le hst (Nat.pow_le_pow_right (by decide) hnt)
  have hl6 := (cl_t st hst64).2.1
  obtain ⟨X, eX⟩ : ∃ X : Nat → Int, X = fun t => ((Te A st lb (cl st).length (cN st t) (cl st).length).natAbs : Int) := ⟨_, rfl⟩
  rw [← eX]
  have K := lpf_for (body := fun a : Int64 × Int32 × Int32 × Int32 => f_X4_takeStand_11 sh M L R (nI st) a.1 a.2.1 a.2.2.1 a.2.2.2) (fun s (_ : Unit) => (lI (sN s (xo st X)), nI (cN st s), mkb st X s, nI s)) (fun _ u => u) (fun _ _ => True) (fun _ => (lI (sN nt (xo st X)), mkb st X nt)) nt
    (fun s u hs _ => by
      refine ⟨?_, trivial⟩
      show f_X4_takeStand_11 sh M L R (nI st) (lI (sN s (xo st X))) (nI (cN st s)) (mkb st X s) (nI s) = _
      unfold f_X4_takeStand_11 f_X4_takeStand_69 f_X4_takeStand_75
      rw [h8, if_neg (nI_ge hs (by omega)), ifi (bit_iff (s := st) (t := s) (by omega) (by omega))]
      rw [show cN st (s + 1) = cN st s + (if st.testBit s = true then 1 else 0) from rfl, show mkb st X (s + 1) = if st.testBit s = true then mkb st X s ||| (if X s ≤ 0 then (0 : Int32) else (1 : Int32) <<< (nI s &&& 31)) else mkb st X s from rfl, show sN (s + 1) (xo st X) = sN s (xo st X) + (if st.testBit s = true then X s else 0) from rfl]
      by_cases hb : st.testBit s = true
      · obtain ⟨-, hc⟩ := (cl_t st hst64).2.2.1 s (by omega) hb
        obtain ⟨b1, b2, b3⟩ := hP.1 (cN st s) (by omega)
        have hv := hT (cN st s) (by omega) (cl st).length (Nat.le_refl _)
        obtain ⟨r1, r2, r3⟩ := Te_r hk h6 hst64 hlb hnm (show cN st s < m by omega)
        have hXs : X s = ((Te A st lb (cl st).length (cN st s) (cl st).length).natAbs : Int) := by rw [eX]
        obtain ⟨v, ev⟩ : ∃ v, v = Te A st lb (cl st).length (cN st s) (cl st).length := ⟨_, rfl⟩
        rw [← ev] at hv r1 hXs
        have rX : rg (X s) := ⟨by omega, by omega⟩
        rw [if_pos hb, if_pos hb, if_pos hb, if_pos hb, ok_t (ix_k (show cN st s < 12 by omega) (by decide)), nI_clamp (show cN st s < 2 ^ 31 by omega), b1, bd1_e, nm_u, h17, ok_t (xk_t (hh _ b2 b3) (ix_k (show (cl st).length < 7 by omega) (by decide))), nI_clamp (show (cl st).length < 2 ^ 31 by omega), hv, j_abs (rg_n r1 (by decide)), bd1_e, nm_u, ← hXs, lI_add, nI_1, nI_1]
        by_cases hx : X s ≤ 0
        · rw [if_pos ((lc_le rX).mpr hx), if_pos hx, nm_u]
        · rw [if_neg (fun z => hx ((lc_le rX).mp z)), if_neg hx, nm_u]
      · rw [if_neg hb, if_neg hb, if_neg hb, if_neg hb, nI_1, Int.add_zero]
        rfl)
    (fun u _ => by
      show f_X4_takeStand_11 sh M L R (nI st) (lI (sN nt (xo st X))) (nI (cN st nt)) (mkb st X nt) (nI nt) = _
      unfold f_X4_takeStand_11
      rw [h8, if_pos (Int32.le_refl _)]) nt 0 () (by omega) trivial
  exact K.1
end TS
