/-! the joint invariant of class and reference between two calls -/
def chn (R : px_R) (wa : Nat → Nat) : Nat → Nat
  | 0 => 0
  | w + 1 => chn R wa w + (if R (wa w) 3 = none then 0 else 1)
theorem chn_le (R : px_R) (wa : Nat → Nat) : ∀ n, chn R wa n ≤ n
  | 0 => Nat.le_refl _
  | n + 1 => by
    have := chn_le R wa n
    unfold chn
    split <;> omega
theorem chn_eq {R R' : px_R} {wa wa' : Nat → Nat} : ∀ n, (∀ w, w < n → wa' w = wa w ∧ R' (wa w) 3 = R (wa w) 3) → chn R' wa' n = chn R wa n
  | 0, _ => rfl
  | n + 1, h => by
    unfold chn
    rw [chn_eq n fun w hw => h w (by omega), (h n (by omega)).1, (h n (by omega)).2]
theorem chn_mono (R : px_R) (wa : Nat → Nat) {n : Nat} : ∀ m, n ≤ m → chn R wa n ≤ chn R wa m
  | 0, h => by
    obtain rfl : n = 0 := by omega
    exact Nat.le_refl _
  | m + 1, h => by
    by_cases e : n = m + 1
    · rw [e]; exact Nat.le_refl _
    · have := chn_mono R wa (n := n) m (by omega)
      show _ ≤ chn R wa m + _
      omega
theorem chn_up {R R' : px_R} {wa : Nat → Nat} {w0 : Nat} (h0 : R (wa w0) 3 = none) (h1 : R' (wa w0) 3 ≠ none) : ∀ n, w0 < n → (∀ w, w < n → w ≠ w0 → R' (wa w) 3 = R (wa w) 3) → chn R' wa n = chn R wa n + 1
  | 0, h, _ => absurd h (by omega)
  | n + 1, h, hs => by
    unfold chn
    by_cases e : w0 = n
    · subst e
      rw [chn_eq (wa := wa) (wa' := wa) w0 fun w hw => ⟨rfl, hs w (by omega) (by omega)⟩, if_neg h1, if_pos h0]
    · rw [chn_up h0 h1 n (by omega) fun w hw q => hs w (by omega) q, hs n (by omega) (fun q => e q.symm)]
      omega
def IS (sh : px_Sh) (M : px_M) (R : px_R) (np : Nat) : Prop := ∃ nf pa fp, SailI sh M R np nf pa fp ∧ ∀ i, i < np → 0 ≤ M 84 i ∧ M 84 i ≤ 2
def IV (sh : px_Sh) (M : px_M) (L : px_L) (R : px_R) (np b : Nat) : Prop := ∃ nw nd wa ch ly d r a, (WI sh M L R nw wa ch ly ∧ VI M nw d r a nd) ∧ (∀ k, k < nd → ∃ p, p < np ∧ M 16 k = nI p) ∧ b ≤ chn R wa nw
def I4 (M : px_M) (R : px_R) : Prop := TapeI M ∧ Iru M R
def I6 (sh : px_Sh) (M : px_M) (L : px_L) (R : px_R) : Prop := ∃ nk nt bb, NetS M nk nt ∧ NetC M L nk nt ∧ PerR sh R bb
def I0 (sh : px_Sh) (R : px_R) (n : Nat) : Prop := SR sh R ∧ 220 ≤ n ∧ ∀ k, n ≤ k → sh k = none
def I23 (c : Nat) (sh : px_Sh) (M : px_M) (L : px_L) (R : px_R) (su : Nat) : Prop := ∃ np, IS sh M R np ∧ ∃ b, IV sh M L R np b ∧ su ≤ 1600000 + 32 * c + 42000 * b
def IA (c : Nat) (sh : px_Sh) (M : px_M) (L : px_L) (R : px_R) (n cu su : Nat) : Prop := I0 sh R n ∧ Ifold M ∧ I23 c sh M L R su ∧ I4 M R ∧ Ihide M ∧ I6 sh M L R ∧ Icat M ∧ cu ≤ 1000 + 4 * c
section INV
variable {sh sh' : px_Sh} {M M' : px_M} {L L' : px_L} {R R' : px_R} {n n' np np' b c cu cu' su su' : Nat}
theorem IS.fr (h : IS sh M R np) (hM : sm_ sh 2 M M') (hR : sm_ sh 2 R R') (hs : ∀ a q, sh a = some q → sh' a = some q) : IS sh' M' R' np := by
  obtain ⟨nf, pa, fp, h1, h2⟩ := h
  exact ⟨nf, pa, fp, h1.fr hM (fun j => ⟨hR 7 j rfl, hR 8 j rfl⟩) (fun a q => hs a _ q), fun i hi => by rw [hM 84 i rfl]; exact h2 i hi⟩
theorem IV.fr (h : IV sh M L R np b) (hM : sm_ sh 3 M M') (hL : sm_ sh 3 L L') (hR : sm_ sh 3 R R') (hs : ∀ a q, sh a = some q → sh' a = some q) (hnp : np ≤ np') : IV sh' M' L' R' np' b := by
  obtain ⟨nw, nd, wa, ch, ly, d, r, a, ⟨h1, h2⟩, h3, h4⟩ := h
  refine ⟨nw, nd, wa, ch, ly, d, r, a, ⟨h1.fr hM hL hR hs, h2.fr hM⟩, fun k hk => ?_, ?_⟩
  · obtain ⟨p, p1, p2⟩ := h3 k hk
    exact ⟨p, by omega, by rw [hM 16 k rfl]; exact p2⟩
  · rw [chn_eq (R := R) (R' := R') (wa := wa) (wa' := wa) nw fun w hw => ⟨rfl, hR _ 3 (md_10 (h1.2.2.1 w hw).1.2.2 (h1.2.2.1 w hw).1.2.1 3)⟩]
    exact h4
theorem I4.fr (h : I4 M R) (hM : sm_ sh 4 M M') (hR : sm_ sh 4 R R') : I4 M' R' := by
  obtain ⟨h1, A, B, tx, k, l, h2⟩ := h
  exact ⟨h1.fr hM, A, B, tx, k, l, h2.fr hM hR⟩
theorem md_net {c j : Nat} (h1 : 192 ≤ c) (h2 : c ≤ 198) : md sh c j = 6 := by
  obtain rfl | rfl | rfl | rfl | rfl | rfl | rfl : c = 192 ∨ c = 193 ∨ c = 194 ∨ c = 195 ∨ c = 196 ∨ c = 197 ∨ c = 198 := by omega
  all_goals rfl
theorem NetC.fr {nk nt : Nat} (h : NetC M L nk nt) (hM : sm_ sh 6 M M') (hL : sm_ sh 6 L L') : NetC M' L' nk nt := fun q => by
  rw [hM 40 9 rfl] at q
  exact SeA_w (h q) (fun c j a b => hM c j (md_net a b)) (hM 40 10 rfl) (hM 40 11 rfl) (hM 40 12 rfl) (hL 40 13 rfl) (hL 40 14 rfl)
theorem I6.fr (h : I6 sh M L R) (hM : sm_ sh 6 M M') (hL : sm_ sh 6 L L') (hR : sm_ sh 6 R R') : I6 sh' M' L' R' := by
  obtain ⟨nk, nt, bb, h1, h2, h3, h4⟩ := h
  exact ⟨nk, nt, bb, h1.fr hM, h2.fr hM hL, fun i hi => by rw [hR 48 i rfl]; exact h3 i hi, h4⟩
theorem IA.go {ks : List Nat} (h : IA c sh M L R n cu su) (hM : kp sh ks M M') (hL : kp sh ks L L') (hR : kp sh ks R R') (hs : ∀ a q, sh a = some q → sh' a = some q) (hb : I0 sh' R' n') (hcu : cu' ≤ cu + 4) (hsu : su' ≤ su + 32 ∨ 3 ∈ ks)
    (h1 : 1 ∈ ks → Ifold M') (h2 : 2 ∈ ks ∨ 3 ∈ ks → I23 (c + 1) sh' M' L' R' su') (h4 : 4 ∈ ks → I4 M' R') (h5 : 5 ∈ ks → Ihide M') (h6 : 6 ∈ ks → I6 sh' M' L' R') (h7 : 7 ∈ ks → Icat M') : IA (c + 1) sh' M' L' R' n' cu' su' := by
  obtain ⟨g0, g1, g2, g4, g5, g6, g7, g8⟩ := h
  have nm : ∀ k, k ≠ 0 → k ∉ ks → k ∉ 0 :: ks := fun k a b q => by
    rcases List.mem_cons.mp q with q | q
    · exact a q
    · exact b q
  refine ⟨hb, ?_, ?_, ?_, ?_, ?_, ?_, by omega⟩
  · by_cases e : 1 ∈ ks
    · exact h1 e
    · obtain ⟨x1, x2, x3, x4, x5⟩ := g1
      exact ⟨x1, x2, x3, x4, x5.fr (hM.sm (nm 1 (by decide) e))⟩
  · by_cases e : 2 ∈ ks ∨ 3 ∈ ks
    · exact h2 e
    · obtain ⟨np, x1, b, x2, x3⟩ := g2
      have e2 := nm 2 (by decide) fun q => e (Or.inl q)
      have e3 := nm 3 (by decide) fun q => e (Or.inr q)
      exact ⟨np, x1.fr (hM.sm e2) (hR.sm e2) hs, b, x2.fr (hM.sm e3) (hL.sm e3) (hR.sm e3) hs (Nat.le_refl _), by have := hsu.resolve_right fun q => e (Or.inr q); omega⟩
  · by_cases e : 4 ∈ ks
    · exact h4 e
    · exact g4.fr (hM.sm (nm 4 (by decide) e)) (hR.sm (nm 4 (by decide) e))
  · by_cases e : 5 ∈ ks
    · exact h5 e
    · exact g5.fr (hM.sm (nm 5 (by decide) e))
  · by_cases e : 6 ∈ ks
    · exact h6 e
    · exact g6.fr (hM.sm (nm 6 (by decide) e)) (hL.sm (nm 6 (by decide) e)) (hR.sm (nm 6 (by decide) e))
  · by_cases e : 7 ∈ ks
    · exact h7 e
    · exact g7.sm (hM.sm (nm 7 (by decide) e))
/-- nothing but what is nobody's has changed -/
theorem IA.no (h : IA c sh M L R n cu su) (hM : kp sh [] M M') (hL : kp sh [] L L') (hR : kp sh [] R R') (hs : ∀ a q, sh a = some q → sh' a = some q) (hb : I0 sh' R' n') (hcu : cu' ≤ cu + 4) (hsu : su' ≤ su + 32) : IA (c + 1) sh' M' L' R' n' cu' su' :=
  h.go hM hL hR hs hb hcu (Or.inl hsu) (fun q => absurd q (by decide)) (fun q => absurd q (by decide)) (fun q => absurd q (by decide)) (fun q => absurd q (by decide)) (fun q => absurd q (by decide)) (fun q => absurd q (by decide))
theorem kp.o {ks : List Nat} (h : kp sh ks L L') (v : Int64) : kp sh ks L (px_u L' 219 0 v) := h.u 0 rfl List.mem_cons_self
theorem I0.w (h : I0 sh R n) (hn : n ≤ n') : I0 sh R n' := ⟨h.1, by have := h.2.1; omega, fun k q => h.2.2 k (by omega)⟩
/-- the sail has changed alone -/
theorem I23.s {np2 : Nat} (h : ∃ b, IV sh M L R np b ∧ su ≤ 1600000 + 32 * c + 42000 * b) (hM : kp sh [2] M M') (hL : kp sh [2] L L') (hR : kp sh [2] R R') (hs : ∀ a q, sh a = some q → sh' a = some q) (hnp : np ≤ np2) (hsu : su' ≤ su + 32) (h2 : IS sh' M' R' np2) : I23 (c + 1) sh' M' L' R' su' := by
  obtain ⟨b, x2, x3⟩ := h
  exact ⟨np2, h2, b, x2.fr (hM.sm (by decide)) (hL.sm (by decide)) (hR.sm (by decide)) hs hnp, by omega⟩
/-- the voyage has changed alone -/
theorem I23.v {b' : Nat} (h : IS sh M R np) (hM : kp sh [3] M M') (hR : kp sh [3] R R') (hs : ∀ a q, sh a = some q → sh' a = some q) (hsu : su' ≤ 1600000 + 32 * (c + 1) + 42000 * b') (h2 : IV sh' M' L' R' np b') : I23 (c + 1) sh' M' L' R' su' :=
  ⟨np, h.fr (hM.sm (by decide)) (hR.sm (by decide)) hs, b', h2, hsu⟩
/-- a sail that Isail tells of, its curls as they were -/
theorem IS.of {nf : Nat} {pa fp : Nat → Nat} (h : SailI sh M R np nf pa fp) (hc : ∀ i, i < np → 0 ≤ M 84 i ∧ M 84 i ≤ 2) (h2 : Isail sh' M' R') (h1 : M' 6 1 = M 6 1) (h84 : ∀ j, M' 84 j = M 84 j) : IS sh' M' R' np := by
  obtain ⟨np2, nf2, pa2, fp2, h3⟩ := h2
  obtain rfl : np2 = np := by
    have e1 := h3.2.1.1
    rw [h1, h.2.1.1] at e1
    exact ((nI_eq (by have := h.1.1; omega) (by have := h3.1.1; omega)).mp e1).symm
  exact ⟨nf2, pa2, fp2, h3, fun i hi => by rw [h84 i]; exact hc i hi⟩
theorem I0.cc (h : I0 sh R n) (v : Nat × Nat) (w : Nat → Option Nat) : I0 (px_c sh n (some v)) (px_c R n w) (n + 1) := ⟨h.1.new h.2.1, by have := h.2.1; omega, fun k q => by rw [px_c_ne _ _ (by omega)]; exact h.2.2 k (by omega)⟩
theorem c_ext (h : sh n = none) (v : Option (Nat × Nat)) : ∀ a q, sh a = some q → px_c sh n v a = some q := fun a q e => by
  rw [px_c_ne _ _ (fun z => by rw [z, h] at e; cases e)]
  exact e
/-- what a chart's making leaves, in the words of the parts -/
theorem GrN.k {α : Type} {M0 : px_M} {L0 : px_L} {R0 : px_R} {f f0 f2 : Nat → Nat → α} (g : GrN sh M L R n sh' M0 L0 R0) (h0 : I0 sh R n) (hf : ∀ c j, c < n → f0 c j = f c j) (k : kp sh' [3] f0 f2) : kp sh [3] f f2 := fun c j q => by
  have hc : c < n := Nat.lt_of_not_le fun z => q (by rw [md_d (by have := h0.2.1; omega), h0.2.2 c z]; exact List.mem_cons_self)
  rw [k c j (by unfold md at q ⊢; rw [g.2.2.2.2.1 c hc]; exact q)]
  exact hf c j hc
theorem GrN.r {M0 : px_M} {L0 : px_L} {R0 : px_R} (g : GrN sh M L R n sh' M0 L0 R0) (h0 : I0 sh R n) : kp sh [3] R R0 := fun c j q => by
  have hc : c < n := Nat.lt_of_not_le fun z => q (by rw [md_d (by have := h0.2.1; omega), h0.2.2 c z]; exact List.mem_cons_self)
  obtain ⟨w0, x1, x2, x3, x4, x5⟩ := g.2.2.1
  exact x5 c j hc fun z => q (by rw [z.1, md_10 x2 x1]; decide)
theorem GrN.s {M0 : px_M} {L0 : px_L} {R0 : px_R} (g : GrN sh M L R n sh' M0 L0 R0) (h0 : I0 sh R n) : ∀ a q, sh a = some q → sh' a = some q := fun a q e => by
  rw [g.2.2.2.2.1 a (Nat.lt_of_not_le fun z => by rw [h0.2.2 a z] at e; cases e)]
  exact e
theorem GrN.nn {M0 : px_M} {L0 : px_L} {R0 : px_R} {nw w : Nat} {wa ch ly : Nat → Nat} (g : GrN sh M L R n sh' M0 L0 R0) (h0 : I0 sh R n) (hW : WI sh M L R nw wa ch ly) (hw : w < nw) (h1 : R (wa w) 3 = none) (h2 : R0 (wa w) 3 ≠ none) : chn R0 wa nw = chn R wa nw + 1 := by
  have hlt : ∀ v, v < nw → wa v < n := fun v hv => Nat.lt_of_not_le fun z => by have := (hW.2.2.1 v hv).1.2.1; rw [h0.2.2 _ z] at this; cases this
  obtain ⟨w0, x1, x2, x3, x4, x5⟩ := g.2.2.1
  have e : wa w = w0 := Classical.byContradiction fun z => h2 (by rw [x5 _ 3 (hlt w hw) (fun q => z q.1)]; exact h1)
  exact chn_up h1 h2 nw hw fun v hv q => x5 _ 3 (hlt v hv) fun z => q (hW.2.2.2.1 v w hv hw (z.1.trans e.symm))
theorem RuI.fe {A B m : Nat} {tx : Nat → Nat} {l : List Rul} (h : RuI M R A B tx m l) (hM : ∀ c j, ¬ (c = 20 ∧ j = 1) → c ≠ 21 → c ≠ 177 → ¬ (c = 73 ∧ (j = 35 ∨ j = 0)) → M' c j = M c j) : RuI M' R A B tx m l := by
  obtain ⟨h1, h2, h3, h4, h5, h6, h7, h8⟩ := h
  have hA : A = 22 ∨ A = 68 := by omega
  refine ⟨h1, h2, ?_, ⟨h4.1, fun i hi => ?_, ?_⟩, ?_, h6, fun j hj => ?_, fun i hi => ?_⟩
  · rw [hM 20 9 (by omega) (by omega) (by omega) (by omega), hM 73 38 (by omega) (by omega) (by omega) (by omega)]; exact h3
  · rw [hM 178 i (by omega) (by omega) (by omega) (by omega)]; exact h4.2.1 i hi
  · rw [hM 73 37 (by omega) (by omega) (by omega) (by omega)]; exact h4.2.2
  · rw [hM 73 36 (by omega) (by omega) (by omega) (by omega), hM A 5 (by omega) (by omega) (by omega) (by omega)]; exact h5
  · rw [hM (A + 1) j (by omega) (by omega) (by omega) (by omega)]; exact h7 j hj
  · rw [hM (A + 2) i (by omega) (by omega) (by omega) (by omega), hM (A + 3) i (by omega) (by omega) (by omega) (by omega)]; exact h8 i hi
end INV
/-! one call of the law: the class through its wrapper, then the reference -/
def KI (X : Nat × (Nat → Int32)) (yw : MethodName) (cw : ByteArray) (mw : Nat) (hh : List (Nat × Nat × Nat × Nat)) (ym : MethodName) (cm : ByteArray) (mm : Nat) (rt : Option FieldType) (av avm : List Value) (bv : Option Value → Int64 → Prop) (c : Nat) (sh : px_Sh) (M : px_M) (L : px_L) (R : px_R) (n cu su : Nat) : Prop :=
  ∃ (k : Int32) (m1 s1 : Nat) (P1 : px_Post), (m1 ≤ 4 ∧ s1 ≤ 41992) ∧ MXW yw cw mw (some .int) hh 100 m1 s1 X av sh M L R n P1 ∧ ∀ v sh1 M1 L1 R1 n1, P1 v sh1 M1 L1 R1 n1 → v = some (.int k) ∧ SR sh1 R1 ∧ ∃ (m2 s2 : Nat) (P2 : px_Post), (m2 ≤ 2 ∧ s2 ≤ 8) ∧ MX ym cm mm rt 100 m2 s2 X avm sh1 M1 L1 R1 n1 P2 ∧ ∀ v2 sh2 M2 L2 R2 n2, P2 v2 sh2 M2 L2 R2 n2 → (∃ w, bv v2 w ∧ (k = 0 → L2 219 0 = w)) ∧ M2 73 0 = k ∧ IA (c + 1) sh2 M2 L2 R2 n2 (cu + m1 + m2) (su + s1 + s2)
/-- the reference's answer as a long: of an int, of a truth, of a long, none -/
def bvI (v : Option Value) (w : Int64) : Prop := ∃ b : Int32, v = some (.int b) ∧ w = b.toInt64
def bvZ (v : Option Value) (w : Int64) : Prop := ∃ b : Int32, v = some (.int b) ∧ w = (if b = 0 then 0 else 1)
def bvJ (v : Option Value) (w : Int64) : Prop := v = some (.long w)
def bvV (v : Option Value) (_ : Int64) : Prop := v = none
section KK
variable {X : Nat × (Nat → Int32)} {yw : MethodName} {cw : ByteArray} {mw : Nat} {hh : List (Nat × Nat × Nat × Nat)} {ym : MethodName} {cm : ByteArray} {mm : Nat} {rt : Option FieldType} {av avm : List Value} {bv : Option Value → Int64 → Prop} {c : Nat} {sh : px_Sh} {M : px_M} {L : px_L} {R : px_R} {n cu su : Nat}
theorem KI.ret {m1 s1 m2 s2 : Nat} {P1 P2 : px_Post} {sh1 sh2 : px_Sh} {M1 M2 : px_M} {L1 L2 : px_L} {R1 R2 : px_R} {n1 n2 : Nat} {v2 : Option Value} {w : Int64} (hw : MXW yw cw mw (some .int) hh 100 m1 s1 X av sh M L R n P1) (hP1 : ∀ v sh' M' L' R' n', P1 v sh' M' L' R' n' → v = some (.int 0) ∧ sh' = sh1 ∧ M' = M1 ∧ L' = L1 ∧ R' = R1 ∧ n' = n1) (hS : ∀ v sh' M' L' R' n', P1 v sh' M' L' R' n' → SR sh1 R1)
    (hm : SR sh1 R1 → MX ym cm mm rt 100 m2 s2 X avm sh1 M1 L1 R1 n1 P2) (hP2 : ∀ v sh' M' L' R' n', P2 v sh' M' L' R' n' → v = v2 ∧ sh' = sh2 ∧ M' = M2 ∧ L' = L2 ∧ R' = R2 ∧ n' = n2) (hms : (m1 ≤ 4 ∧ s1 ≤ 41992) ∧ m2 ≤ 2 ∧ s2 ≤ 8) (h0 : M2 73 0 = 0) (hb : bv v2 w) (hl : L2 219 0 = w) (hI : SR sh1 R1 → IA (c + 1) sh2 M2 L2 R2 n2 (cu + m1 + m2) (su + s1 + s2)) : KI X yw cw mw hh ym cm mm rt av avm bv c sh M L R n cu su := by
  refine ⟨0, m1, s1, P1, hms.1, hw, fun v sh' M' L' R' n' q => ?_⟩
  have hS1 := hS _ _ _ _ _ _ q
  obtain ⟨rfl, rfl, rfl, rfl, rfl, rfl⟩ := hP1 _ _ _ _ _ _ q
  refine ⟨rfl, hS1, m2, s2, P2, hms.2, hm hS1, fun v sh' M' L' R' n' q => ?_⟩
  obtain ⟨rfl, rfl, rfl, rfl, rfl, rfl⟩ := hP2 _ _ _ _ _ _ q
  exact ⟨⟨w, hb, fun _ => hl⟩, h0, hI hS1⟩
theorem KI.thr {k : Int32} {m2 s2 : Nat} {P2 : Nat → px_Post} {M2 : px_M} {v2 : Option Value} {w : Int64} (h : IA c sh M L R n cu su) (hw : MXW yw cw mw (some .int) hh 100 1 6 X av sh M L R n (px_wx k sh M L R n)) (hk : k ≠ 0) (hms : m2 ≤ 2 ∧ s2 ≤ 8)
    (hm : ∀ n', n ≤ n' → MX ym cm mm rt 100 m2 s2 X avm sh M L R n' (P2 n')) (hP2 : ∀ n' v sh' M' L' R' n2, P2 n' v sh' M' L' R' n2 → v = v2 ∧ sh' = sh ∧ M' = M2 ∧ L' = L ∧ R' = R ∧ n2 = n') (h0 : M2 73 0 = k) (hb : bv v2 w) (hkp : kp sh [] M M2) : KI X yw cw mw hh ym cm mm rt av avm bv c sh M L R n cu su := by
  refine ⟨k, 1, 6, _, by omega, hw, ?_⟩
  rintro v sh' M' L' R' n' ⟨rfl, rfl, rfl, rfl, rfl, hn⟩
  refine ⟨rfl, h.1.1, m2, s2, P2 n', hms, hm n' hn, fun v2' sh2 M2' L2 R2 n2 q => ?_⟩
  obtain ⟨rfl, rfl, rfl, rfl, rfl, rfl⟩ := hP2 _ _ _ _ _ _ _ q
  exact ⟨⟨w, hb, fun e => absurd e hk⟩, h0, h.no hkp kp.rf kp.rf (fun _ _ q => q) (h.1.w hn) (by omega) (by omega)⟩
theorem KI.thg {k : Int32} {m2 s2 : Nat} {P2 : Nat → px_Post} {M2 : px_M} {v2 : Option Value} {w : Int64} (h : IA c sh M L R n cu su) (hw : MXW yw cw mw (some .int) hh 100 1 6 X av sh M L R n (px_wx k sh M L R n)) (hk : k ≠ 0) (hms : m2 ≤ 2 ∧ s2 ≤ 8)
    (hm : ∀ n', n ≤ n' → MX ym cm mm rt 100 m2 s2 X avm sh M L R n' (P2 n')) (hP2 : ∀ n' v sh' M' L' R' n2, P2 n' v sh' M' L' R' n2 → v = v2 ∧ sh' = sh ∧ M' = M2 ∧ L' = L ∧ R' = R ∧ n2 = n') (h0 : M2 73 0 = k) (hb : bv v2 w) (hI : ∀ n', n ≤ n' → IA (c + 1) sh M2 L R n' (cu + 1 + m2) (su + 6 + s2)) : KI X yw cw mw hh ym cm mm rt av avm bv c sh M L R n cu su := by
  refine ⟨k, 1, 6, _, by omega, hw, ?_⟩
  rintro v sh' M' L' R' n' ⟨rfl, rfl, rfl, rfl, rfl, hn⟩
  refine ⟨rfl, h.1.1, m2, s2, P2 n', hms, hm n' hn, fun v2' sh2 M2' L2 R2 n2 q => ?_⟩
  obtain ⟨rfl, rfl, rfl, rfl, rfl, rfl⟩ := hP2 _ _ _ _ _ _ _ q
  exact ⟨⟨w, hb, fun e => absurd e hk⟩, h0, hI _ hn⟩
/-- the same for calls that cannot throw: both answers, one behind the other -/
def KD (X : Nat × (Nat → Int32)) (yw : MethodName) (cw : ByteArray) (mw : Nat) (rw : Option FieldType) (ym : MethodName) (cm : ByteArray) (mm : Nat) (av avm : List Value) (c : Nat) (sh : px_Sh) (M : px_M) (L : px_L) (R : px_R) (n cu su : Nat) : Prop :=
  ∃ (k : Int32) (P1 : px_Post), MX yw cw mw rw 100 0 0 X av sh M L R n P1 ∧ ∀ v sh1 M1 L1 R1 n1, P1 v sh1 M1 L1 R1 n1 → v = some (.int k) ∧ SR sh1 R1 ∧ ∃ (P2 : px_Post), MX ym cm mm rw 100 0 0 X avm sh1 M1 L1 R1 n1 P2 ∧ ∀ v2 sh2 M2 L2 R2 n2, P2 v2 sh2 M2 L2 R2 n2 → v2 = some (.int k) ∧ IA (c + 1) sh2 M2 L2 R2 n2 cu su
theorem KD.ret {rw : Option FieldType} {P1 P2 : px_Post} {sh1 sh2 : px_Sh} {M1 M2 : px_M} {L1 L2 : px_L} {R1 R2 : px_R} {n1 n2 : Nat} {k : Int32} (hw : MX yw cw mw rw 100 0 0 X av sh M L R n P1) (hP1 : ∀ v sh' M' L' R' n', P1 v sh' M' L' R' n' → v = some (.int k) ∧ sh' = sh1 ∧ M' = M1 ∧ L' = L1 ∧ R' = R1 ∧ n' = n1) (hS : ∀ v sh' M' L' R' n', P1 v sh' M' L' R' n' → SR sh1 R1)
    (hm : SR sh1 R1 → MX ym cm mm rw 100 0 0 X avm sh1 M1 L1 R1 n1 P2) (hP2 : ∀ v sh' M' L' R' n', P2 v sh' M' L' R' n' → v = some (.int k) ∧ sh' = sh2 ∧ M' = M2 ∧ L' = L2 ∧ R' = R2 ∧ n' = n2) (hI : SR sh1 R1 → IA (c + 1) sh2 M2 L2 R2 n2 cu su) : KD X yw cw mw rw ym cm mm av avm c sh M L R n cu su := by
  refine ⟨k, P1, hw, fun v sh' M' L' R' n' q => ?_⟩
  have hS1 := hS _ _ _ _ _ _ q
  obtain ⟨rfl, rfl, rfl, rfl, rfl, rfl⟩ := hP1 _ _ _ _ _ _ q
  refine ⟨rfl, hS1, P2, hm hS1, fun v sh' M' L' R' n' q => ?_⟩
  obtain ⟨rfl, rfl, rfl, rfl, rfl, rfl⟩ := hP2 _ _ _ _ _ _ q
  exact ⟨rfl, hI hS1⟩
end KK
