/-! the four that throw, and the rules for their calls -/
def px_xn (k : Nat) : String := px_xs.getD k ""
def px_px (E : String) (sh : px_Sh) (M : px_M) (L : px_L) (R : px_R) (n : Nat) : px_PX := fun E' sh' M' L' R' n' => E' = E ∧ sh' = sh ∧ M' = M ∧ L' = L ∧ R' = R ∧ n ≤ n'
def px_nx : px_PX := fun _ _ _ _ _ _ => False
def px_np : px_Post := fun _ _ _ _ _ _ => False
section PXN
variable {own : String} {cc : ByteArray} {mL : Nat} {rt : Option FieldType} {n0 : String} {d mc ms : Nat} {X : Nat × (Nat → Int32)} {QF : px_F} {Post : px_Post} {PX : px_PX} {pc : Nat} {lv lv' : List (Nat × Value)} {st : List Value} {sh : px_Sh} {M : px_M} {L : px_L} {R : px_R} {n cu su : Nat}
theorem wx_needT {idx d2 : Nat} {y : MethodName} {c2 : ByteArray} {b : Int32} (hd : decode cc pc = .ok (.invokestatic idx, 3)) (hl : Cond.methodLink own idx y ∈ px_G) (hy : px_my y c2 1 none 1) (hst : Cond.static y ∈ px_G)
    (hM : MXT y c2 1 none d2 0 0 X [.int b] sh M L R n (px_pu none sh M L R n) px_nx) (hdd : d2 + 1 ≤ d) (hcat : (st.map fun v => v.category).sum ≤ 8) (hmc : cu ≤ mc) (hms : su ≤ ms)
    (h : WX own cc mL rt (n0, []) d mc ms X (px_QX Post PX mc ms) (pc + 3) lv st sh M L R n cu su) : WX own cc mL rt (n0, []) d mc ms X (px_QX Post PX mc ms) pc lv (.int b :: st) sh M L R n cu su := by
  refine wx_callSX (av := [.int b]) hd hl hy hst hM rfl hdd hcat hmc hms (fun _ _ _ _ _ _ q => q.elim) ?_
  rintro v sh' M' L' R' n' ⟨rfl, rfl, rfl, rfl, rfl, rfl⟩
  exact h
theorem wx_needF {idx d2 : Nat} {y : MethodName} {c2 : ByteArray} {b : Int32} {E : String} (hd : decode cc pc = .ok (.invokestatic idx, 3)) (hl : Cond.methodLink own idx y ∈ px_G) (hy : px_my y c2 1 none 1) (hst : Cond.static y ∈ px_G)
    (hM : MXT y c2 1 none d2 1 6 X [.int b] sh M L R n px_np (px_px E sh M L R n)) (hdd : d2 + 1 ≤ d) (hcat : (st.map fun v => v.category).sum ≤ 8) (hmc : cu + 1 ≤ mc) (hms : su + 6 ≤ ms)
    (h : ∀ n', n ≤ n' → PX E sh M L R n') : WX own cc mL rt (n0, []) d mc ms X (px_QX Post PX mc ms) pc lv (.int b :: st) sh M L R n cu su := by
  refine wx_callSX (av := [.int b]) hd hl hy hst hM rfl hdd hcat hmc hms ?_ (fun _ _ _ _ _ _ q => q.elim)
  rintro E' sh' M' L' R' n' ⟨rfl, rfl, rfl, rfl, rfl, hn⟩
  exact h n' hn
end PXN
theorem nl_needArgument : Cond.methodLink RX11 69 yX11_needArgument ∈ px_G := px_mem 631 (by decide +kernel) rfl
theorem mT_needArgument {d : Nat} {X : Nat × (Nat → Int32)} {sh : px_Sh} {M : px_M} {L : px_L} {R : px_R} {n : Nat} {b : Int32} (hb : ¬ b = 0) : MXT yX11_needArgument cX11_needArgument 1 none d 0 0 X [.int b] sh M L R n (px_pu none sh M L R n) px_nx := by
  refine MXT.of (by decide +kernel) (by exact Nat.le_of_ble_eq_true rfl) ?_
  refine wx_iload_n dX11_needArgument_0 rfl ?_
  refine wx_if_ne (tgt := 15) dX11_needArgument_1 (by decide) (fun _ => ?_) (fun c => absurd c hb)
  refine wx_rx ?_
  refine wx_vret dX11_needArgument_15 (Nat.zero_le _) (Nat.zero_le _) ?_
  exact ⟨rfl, rfl, rfl, rfl, rfl, rfl⟩
theorem mF_needArgument {d : Nat} {X : Nat × (Nat → Int32)} {sh : px_Sh} {M : px_M} {L : px_L} {R : px_R} {n : Nat} {b : Int32} (hd : 6 ≤ d) (hb : b = 0) : MXT yX11_needArgument cX11_needArgument 1 none d 1 6 X [.int b] sh M L R n px_np (px_px "java/lang/IllegalArgumentException" sh M L R n) := by
  refine MXT.of (by decide +kernel) (by exact Nat.le_of_ble_eq_true rfl) ?_
  refine wx_iload_n dX11_needArgument_0 rfl ?_
  refine wx_if_ne (tgt := 15) dX11_needArgument_1 (by decide) (fun c => absurd hb c) (fun _ => ?_)
  exact wx_throw (k := 2) (fun B sx X U H hE => hE.2.2.2.1.1) tw_IAE (by decide +kernel) dX11_needArgument_4 dX11_needArgument_7 dX11_needArgument_8 dX11_needArgument_11 dX11_needArgument_14 hd (by exact Nat.le_of_ble_eq_true rfl) (by omega) (by omega) (fun n' hn => ⟨rfl, rfl, rfl, rfl, rfl, hn⟩)
theorem nl_needIndex : Cond.methodLink RX11 95 yX11_needIndex ∈ px_G := px_mem 776 (by decide +kernel) rfl
theorem mT_needIndex {d : Nat} {X : Nat × (Nat → Int32)} {sh : px_Sh} {M : px_M} {L : px_L} {R : px_R} {n : Nat} {b : Int32} (hb : ¬ b = 0) : MXT yX11_needIndex cX11_needIndex 1 none d 0 0 X [.int b] sh M L R n (px_pu none sh M L R n) px_nx := by
  refine MXT.of (by decide +kernel) (by exact Nat.le_of_ble_eq_true rfl) ?_
  refine wx_iload_n dX11_needIndex_0 rfl ?_
  refine wx_if_ne (tgt := 15) dX11_needIndex_1 (by decide) (fun _ => ?_) (fun c => absurd c hb)
  refine wx_rx ?_
  refine wx_vret dX11_needIndex_15 (Nat.zero_le _) (Nat.zero_le _) ?_
  exact ⟨rfl, rfl, rfl, rfl, rfl, rfl⟩
theorem mF_needIndex {d : Nat} {X : Nat × (Nat → Int32)} {sh : px_Sh} {M : px_M} {L : px_L} {R : px_R} {n : Nat} {b : Int32} (hd : 6 ≤ d) (hb : b = 0) : MXT yX11_needIndex cX11_needIndex 1 none d 1 6 X [.int b] sh M L R n px_np (px_px "java/lang/IndexOutOfBoundsException" sh M L R n) := by
  refine MXT.of (by decide +kernel) (by exact Nat.le_of_ble_eq_true rfl) ?_
  refine wx_iload_n dX11_needIndex_0 rfl ?_
  refine wx_if_ne (tgt := 15) dX11_needIndex_1 (by decide) (fun c => absurd hb c) (fun _ => ?_)
  exact wx_throw (k := 3) (fun B sx X U H hE => hE.2.2.2.1.2.1) tw_IOOBE (by decide +kernel) dX11_needIndex_4 dX11_needIndex_7 dX11_needIndex_8 dX11_needIndex_11 dX11_needIndex_14 hd (by exact Nat.le_of_ble_eq_true rfl) (by omega) (by omega) (fun n' hn => ⟨rfl, rfl, rfl, rfl, rfl, hn⟩)
theorem nl_needState : Cond.methodLink RX11 85 yX11_needState ∈ px_G := px_mem 741 (by decide +kernel) rfl
theorem mT_needState {d : Nat} {X : Nat × (Nat → Int32)} {sh : px_Sh} {M : px_M} {L : px_L} {R : px_R} {n : Nat} {b : Int32} (hb : ¬ b = 0) : MXT yX11_needState cX11_needState 1 none d 0 0 X [.int b] sh M L R n (px_pu none sh M L R n) px_nx := by
  refine MXT.of (by decide +kernel) (by exact Nat.le_of_ble_eq_true rfl) ?_
  refine wx_iload_n dX11_needState_0 rfl ?_
  refine wx_if_ne (tgt := 15) dX11_needState_1 (by decide) (fun _ => ?_) (fun c => absurd c hb)
  refine wx_rx ?_
  refine wx_vret dX11_needState_15 (Nat.zero_le _) (Nat.zero_le _) ?_
  exact ⟨rfl, rfl, rfl, rfl, rfl, rfl⟩
theorem mF_needState {d : Nat} {X : Nat × (Nat → Int32)} {sh : px_Sh} {M : px_M} {L : px_L} {R : px_R} {n : Nat} {b : Int32} (hd : 6 ≤ d) (hb : b = 0) : MXT yX11_needState cX11_needState 1 none d 1 6 X [.int b] sh M L R n px_np (px_px "java/lang/IllegalStateException" sh M L R n) := by
  refine MXT.of (by decide +kernel) (by exact Nat.le_of_ble_eq_true rfl) ?_
  refine wx_iload_n dX11_needState_0 rfl ?_
  refine wx_if_ne (tgt := 15) dX11_needState_1 (by decide) (fun c => absurd hb c) (fun _ => ?_)
  exact wx_throw (k := 5) (fun B sx X U H hE => hE.2.2.2.1.2.2.2.1) tw_ISE (by decide +kernel) dX11_needState_4 dX11_needState_7 dX11_needState_8 dX11_needState_11 dX11_needState_14 hd (by exact Nat.le_of_ble_eq_true rfl) (by omega) (by omega) (fun n' hn => ⟨rfl, rfl, rfl, rfl, rfl, hn⟩)
theorem nl_needElement : Cond.methodLink RX11 132 yX11_needElement ∈ px_G := px_mem 932 (by decide +kernel) rfl
theorem mT_needElement {d : Nat} {X : Nat × (Nat → Int32)} {sh : px_Sh} {M : px_M} {L : px_L} {R : px_R} {n : Nat} {b : Int32} (hb : ¬ b = 0) : MXT yX11_needElement cX11_needElement 1 none d 0 0 X [.int b] sh M L R n (px_pu none sh M L R n) px_nx := by
  refine MXT.of (by decide +kernel) (by exact Nat.le_of_ble_eq_true rfl) ?_
  refine wx_iload_n dX11_needElement_0 rfl ?_
  refine wx_if_ne (tgt := 15) dX11_needElement_1 (by decide) (fun _ => ?_) (fun c => absurd c hb)
  refine wx_rx ?_
  refine wx_vret dX11_needElement_15 (Nat.zero_le _) (Nat.zero_le _) ?_
  exact ⟨rfl, rfl, rfl, rfl, rfl, rfl⟩
