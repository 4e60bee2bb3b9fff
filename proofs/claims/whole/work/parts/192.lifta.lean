/-! the same for methods that make cells -/
theorem rlay_lt {k j b : Nat} (h : rlay k j = some b) : k < 220 := by
  rcases Nat.lt_or_ge k 220 with q | q
  · exact q
  · unfold rlay at h
    repeat rw [if_neg (by omega)] at h
    cases h
theorem rlay_dyn {a j : Nat} (h : decide (220 ≤ a) = true) : rlay a j = none := by
  cases e : rlay a j with
  | none => rfl
  | some b => exact absurd (rlay_lt e) (by have := of_decide_eq_true h; omega)
theorem SR.new {sh : px_Sh} {R : px_R} (h : SR sh R) {n : Nat} (hn : 220 ≤ n) {v : Option (Nat × Nat)} {w : Nat → Option Nat} : SR (px_c sh n v) (px_c R n w) := by
  refine ⟨fun k hk => ?_, fun k j b hb => ?_⟩
  · rw [px_c_ne _ _ (by omega)]
    exact h.1 k hk
  · have := rlay_lt hb
    rw [px_c_ne _ _ (by omega)]
    exact h.2 k j b hb
def px_pa (v : Option Value) (sh : px_Sh) (M : px_M) (L : px_L) (R : px_R) (n : Nat) : px_Post := fun w sh' M' L' R' n' => (w = v ∧ sh' = sh ∧ M' = M ∧ L' = L ∧ R' = R ∧ n' = n) ∧ SR sh R ∧ 220 ≤ n
section PXA
variable {own : String} {cc : ByteArray} {mL : Nat} {rt : Option FieldType} {nm : String × List (Nat × Nat × Nat × Nat)} {d mc ms : Nat} {X : Nat × (Nat → Int32)} {QF : px_F} {pc : Nat} {lv lv' : List (Nat × Value)} {st : List Value} {sh sh1 : px_Sh} {M M1 : px_M} {L L1 : px_L} {R R1 : px_R} {n n1 cu su : Nat}
theorem wx_namS (h : ∀ sh', sh' = sh → WX own cc mL rt nm d mc ms X QF pc lv st sh' M L R n cu su) : WX own cc mL rt nm d mc ms X QF pc lv st sh M L R n cu su := h sh rfl
theorem wx_aVi {idx a kd ln : Nat} {y : MethodName} {c2 : ByteArray} {mL2 d2 mc2 ms2 : Nat} {rt2 : Option FieldType} {av st0 : List Value} {r : Int32} (hd : decode cc pc = .ok (.invokevirtual idx, 3)) (hl : px_ml own idx y) (hy : px_my y c2 mL2 rt2 av.length) (hst : Cond.instanceMethod y ∈ px_G ∧ Cond.selects (px_RC kd) y y ∈ px_G) (hs : sh a = some (kd, ln)) (h13 : kd < 13) (hM : MX y c2 mL2 rt2 d2 mc2 ms2 X (.ref a :: av) sh M L R n (px_pa (some (.int r)) sh1 M1 L1 R1 n1)) (h0 : st0 = av.reverse ++ .ref a :: st) (hdd : d2 + 1 ≤ d) (hcat : (st.map fun v => v.category).sum ≤ 8) (hmc : cu + mc2 ≤ mc) (hms : su + ms2 ≤ ms) (h : SR sh1 R1 → 220 ≤ n1 → WX own cc mL rt nm d mc ms X QF (pc + 3) lv (.int r :: st) sh1 M1 L1 R1 n1 (cu + mc2) (su + ms2)) : WX own cc mL rt nm d mc ms X QF pc lv st0 sh M L R n cu su := by
  refine wx_callV hd hl hy hst hs h13 hM h0 hdd hcat hmc hms ?_
  rintro v sh' M' L' R' n' ⟨⟨rfl, rfl, rfl, rfl, rfl, rfl⟩, q, q2⟩
  exact h q q2
theorem wx_aVv {idx a kd ln : Nat} {y : MethodName} {c2 : ByteArray} {mL2 d2 mc2 ms2 : Nat} {rt2 : Option FieldType} {av st0 : List Value}  (hd : decode cc pc = .ok (.invokevirtual idx, 3)) (hl : px_ml own idx y) (hy : px_my y c2 mL2 rt2 av.length) (hst : Cond.instanceMethod y ∈ px_G ∧ Cond.selects (px_RC kd) y y ∈ px_G) (hs : sh a = some (kd, ln)) (h13 : kd < 13) (hM : MX y c2 mL2 rt2 d2 mc2 ms2 X (.ref a :: av) sh M L R n (px_pa none sh1 M1 L1 R1 n1)) (h0 : st0 = av.reverse ++ .ref a :: st) (hdd : d2 + 1 ≤ d) (hcat : (st.map fun v => v.category).sum ≤ 8) (hmc : cu + mc2 ≤ mc) (hms : su + ms2 ≤ ms) (h : SR sh1 R1 → 220 ≤ n1 → WX own cc mL rt nm d mc ms X QF (pc + 3) lv st sh1 M1 L1 R1 n1 (cu + mc2) (su + ms2)) : WX own cc mL rt nm d mc ms X QF pc lv st0 sh M L R n cu su := by
  refine wx_callV hd hl hy hst hs h13 hM h0 hdd hcat hmc hms ?_
  rintro v sh' M' L' R' n' ⟨⟨rfl, rfl, rfl, rfl, rfl, rfl⟩, q, q2⟩
  exact h q q2
theorem wx_aVr {idx a kd ln : Nat} {y : MethodName} {c2 : ByteArray} {mL2 d2 mc2 ms2 : Nat} {rt2 : Option FieldType} {av st0 : List Value} {r : Nat} (hd : decode cc pc = .ok (.invokevirtual idx, 3)) (hl : px_ml own idx y) (hy : px_my y c2 mL2 rt2 av.length) (hst : Cond.instanceMethod y ∈ px_G ∧ Cond.selects (px_RC kd) y y ∈ px_G) (hs : sh a = some (kd, ln)) (h13 : kd < 13) (hM : MX y c2 mL2 rt2 d2 mc2 ms2 X (.ref a :: av) sh M L R n (px_pa (some (.ref r)) sh1 M1 L1 R1 n1)) (h0 : st0 = av.reverse ++ .ref a :: st) (hdd : d2 + 1 ≤ d) (hcat : (st.map fun v => v.category).sum ≤ 8) (hmc : cu + mc2 ≤ mc) (hms : su + ms2 ≤ ms) (h : SR sh1 R1 → 220 ≤ n1 → WX own cc mL rt nm d mc ms X QF (pc + 3) lv (.ref r :: st) sh1 M1 L1 R1 n1 (cu + mc2) (su + ms2)) : WX own cc mL rt nm d mc ms X QF pc lv st0 sh M L R n cu su := by
  refine wx_callV hd hl hy hst hs h13 hM h0 hdd hcat hmc hms ?_
  rintro v sh' M' L' R' n' ⟨⟨rfl, rfl, rfl, rfl, rfl, rfl⟩, q, q2⟩
  exact h q q2
theorem wx_aIv {idx a : Nat} {y : MethodName} {c2 : ByteArray} {mL2 d2 mc2 ms2 : Nat} {av st0 : List Value}  (hd : decode cc pc = .ok (.invokespecial idx, 3)) (hl : px_ml own idx y) (hy : px_my y c2 mL2 none av.length) (hst : Cond.instanceMethod y ∈ px_G ∧ y.name = "<init>") (hM : MX y c2 mL2 none d2 mc2 ms2 X (.ref a :: av) sh M L R n (px_pa none sh1 M1 L1 R1 n1)) (h0 : st0 = av.reverse ++ .ref a :: st) (hdd : d2 + 1 ≤ d) (hcat : (st.map fun v => v.category).sum ≤ 8) (hmc : cu + mc2 ≤ mc) (hms : su + ms2 ≤ ms) (h : SR sh1 R1 → 220 ≤ n1 → WX own cc mL rt nm d mc ms X QF (pc + 3) lv st sh1 M1 L1 R1 n1 (cu + mc2) (su + ms2)) : WX own cc mL rt nm d mc ms X QF pc lv st0 sh M L R n cu su := by
  refine wx_callI hd hl hy hst hM h0 hdd hcat hmc hms ?_
  rintro v sh' M' L' R' n' ⟨⟨rfl, rfl, rfl, rfl, rfl, rfl⟩, q, q2⟩
  exact h q q2
theorem wx_cIv {idx a : Nat} {y : MethodName} {c2 : ByteArray} {mL2 d2 : Nat} {av st0 : List Value}  (hd : decode cc pc = .ok (.invokespecial idx, 3)) (hl : px_ml own idx y) (hy : px_my y c2 mL2 none av.length) (hst : Cond.instanceMethod y ∈ px_G ∧ y.name = "<init>") (hM : MX y c2 mL2 none d2 0 0 X (.ref a :: av) sh M L R n (px_pu none sh M1 L1 R1 n)) (h0 : st0 = av.reverse ++ .ref a :: st) (hdd : d2 + 1 ≤ d) (hcat : (st.map fun v => v.category).sum ≤ 8) (hmc : cu ≤ mc) (hms : su ≤ ms) (h : WX own cc mL rt nm d mc ms X QF (pc + 3) lv st sh M1 L1 R1 n cu su) : WX own cc mL rt nm d mc ms X QF pc lv st0 sh M L R n cu su := by
  refine wx_callI hd hl hy hst hM h0 hdd hcat hmc hms ?_
  rintro v sh' M' L' R' n' ⟨rfl, rfl, rfl, rfl, rfl, rfl⟩
  exact h
theorem wx_cIvS {idx a : Nat} {y : MethodName} {c2 : ByteArray} {mL2 d2 : Nat} {av st0 : List Value}  (hd : decode cc pc = .ok (.invokespecial idx, 3)) (hl : px_ml own idx y) (hy : px_my y c2 mL2 none av.length) (hst : Cond.instanceMethod y ∈ px_G ∧ y.name = "<init>") (hM : MX y c2 mL2 none d2 0 0 X (.ref a :: av) sh M L R n (px_ps none sh M1 L1 R1 n)) (h0 : st0 = av.reverse ++ .ref a :: st) (hdd : d2 + 1 ≤ d) (hcat : (st.map fun v => v.category).sum ≤ 8) (hmc : cu ≤ mc) (hms : su ≤ ms) (h : SR sh R1 → WX own cc mL rt nm d mc ms X QF (pc + 3) lv st sh M1 L1 R1 n cu su) : WX own cc mL rt nm d mc ms X QF pc lv st0 sh M L R n cu su := by
  refine wx_callI hd hl hy hst hM h0 hdd hcat hmc hms ?_
  rintro v sh' M' L' R' n' ⟨⟨rfl, rfl, rfl, rfl, rfl, rfl⟩, q⟩
  exact h q
end PXA
