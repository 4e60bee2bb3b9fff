/-! fields and arrays -/
section PXH
variable {own : String} {cc : ByteArray} {mL : Nat} {rt : Option FieldType} {nm : String × List (Nat × Nat × Nat × Nat)} {d mc ms : Nat} {X : Nat × (Nat → Int32)} {QF : px_F} {pc : Nat} {lv lv' : List (Nat × Value)} {st : List Value} {sh : px_Sh} {M M' : px_M} {L L' : px_L} {R R' : px_R} {n cu su : Nat}
theorem wx_getv {idx kd ln j a : Nat} {v : Value} (hd : decode cc pc = .ok (.getfield idx, 3)) (hf : px_fl own idx kd j) (hs : sh a = some (kd, ln)) (hv : ∀ B sx, px_v B sx v = px_val B (px_tc (px_ty kd j)) (M a j) (L a j) (R a j))
    (h : WX own cc mL rt nm d mc ms X QF (pc + 3) lv (v :: st) sh M L R n cu su) : WX own cc mL rt nm d mc ms X QF pc lv (.ref a :: st) sh M L R n cu su := by
  intro p l e Rm s m args below meth c B D cy sx H locs ls hC hW hn hS hl
  obtain ⟨⟨h13, hj, hT⟩, hlk⟩ := hf
  have hat := (hW a _ hs).1 h13
  have h2 := h p l e Rm s m args below meth c B D cy sx H locs ls hC hW hn hS hl
  obtain ⟨hx, hb, -, -, hown, hts, -, hK, hE, -⟩ := hC
  have hP : va_P D vwCl [(B + a, .inr (kd, (List.range (px_N kd)).map (fun i => px_val B (px_tc (px_ty kd i)) (M a i) (L a i) (R a i))))] H := by
    intro k q hk
    have hz : k < 1 := (List.getElem?_eq_some_iff.mp hk).1
    rw [show k = 0 by omega] at hk
    cases hk
    refine ⟨_, px_cl kd h13, hat.to (fun i hi => ?_)⟩
    simp [vp_V, hi]
  have hv2 : ((List.range (px_N kd)).map (fun i => px_val B (px_tc (px_ty kd i)) (M a i) (L a i) (R a i)))[j]? = some (px_v B sx v) := by
    rw [hv]
    simp [hj]
  rcases hlk with hl1 | ⟨host, hl1⟩
  · exact va_get (cl := vwCl) (D := D) (ci := kd) (C := px_RC kd) (T := px_TC kd) (N := px_N kd) hx hb hts (px_inG kd h13) hown hK.1 hP 0 rfl (px_cl kd h13) j hj (hts _ hl1) (fun x hx => by rw [← hT]; exact hx) hv2 hd h2
  · exact va_getN (cl := vwCl) (D := D) (ci := kd) (C := px_RC kd) (T := px_TC kd) (N := px_N kd) hx hb hts (px_inG kd h13) hown hK.1 hP 0 rfl (px_cl kd h13) j hj (va_Nw.use rfl (hE.1.1 _ hl1)) (fun x hx => by rw [← hT]; exact hx) hv2 hd h2
theorem wx_getI {idx kd ln j a : Nat} (hd : decode cc pc = .ok (.getfield idx, 3)) (hf : px_fl own idx kd j) (hs : sh a = some (kd, ln)) (ht : px_tc (px_ty kd j) = 0) (h : WX own cc mL rt nm d mc ms X QF (pc + 3) lv (.int (M a j) :: st) sh M L R n cu su) : WX own cc mL rt nm d mc ms X QF pc lv (.ref a :: st) sh M L R n cu su := wx_getv hd hf hs (fun B sx => by rw [ht]; rfl) h
theorem wx_getL {idx kd ln j a : Nat} (hd : decode cc pc = .ok (.getfield idx, 3)) (hf : px_fl own idx kd j) (hs : sh a = some (kd, ln)) (ht : px_tc (px_ty kd j) = 1) (h : WX own cc mL rt nm d mc ms X QF (pc + 3) lv (.long (L a j) :: st) sh M L R n cu su) : WX own cc mL rt nm d mc ms X QF pc lv (.ref a :: st) sh M L R n cu su := wx_getv hd hf hs (fun B sx => by rw [ht]; rfl) h
theorem wx_getR {idx kd ln j a b : Nat} (hd : decode cc pc = .ok (.getfield idx, 3)) (hf : px_fl own idx kd j) (hs : sh a = some (kd, ln)) (ht : px_tc (px_ty kd j) = 2) (hr : R a j = some b) (h : WX own cc mL rt nm d mc ms X QF (pc + 3) lv (.ref b :: st) sh M L R n cu su) : WX own cc mL rt nm d mc ms X QF pc lv (.ref a :: st) sh M L R n cu su := wx_getv hd hf hs (fun B sx => by rw [ht, hr]; rfl) h
theorem wx_getN {idx kd ln j a : Nat} (hd : decode cc pc = .ok (.getfield idx, 3)) (hf : px_fl own idx kd j) (hs : sh a = some (kd, ln)) (ht : px_tc (px_ty kd j) = 2) (hr : R a j = none) (h : WX own cc mL rt nm d mc ms X QF (pc + 3) lv (.null :: st) sh M L R n cu su) : WX own cc mL rt nm d mc ms X QF pc lv (.ref a :: st) sh M L R n cu su := wx_getv hd hf hs (fun B sx => by rw [ht, hr]; rfl) h
/-- a field that is written -/
theorem wx_putv {idx kd ln j a : Nat} {v : Value} (hd : decode cc pc = .ok (.putfield idx, 3)) (hf : px_fl own idx kd j) (hs : sh a = some (kd, ln)) (hfin : (px_TC kd j).2.2.2 = false ∨ ((px_TC kd j).2.2.2 = true ∧ nm.1 = "<init>" ∧ own = px_RC kd ∧ Cond.fieldLink own idx (px_RC kd) (px_TC kd j).2.1 (px_TC kd j).2.2.1 ∈ px_G))
    (hn : ∀ B sx, narrow (px_ty kd j) (px_v B sx v) = px_v B sx v ∧ fits (px_ty kd j) (px_v B sx v) = true)
    (hM : ∀ b, b ≠ a → M' b = M b) (hL : ∀ b, b ≠ a → L' b = L b) (hR : ∀ b, b ≠ a → R' b = R b)
    (hv : ∀ B sx k, k < px_N kd → px_val B (px_tc (px_ty kd k)) (M' a k) (L' a k) (R' a k) = if k = j then px_v B sx v else px_val B (px_tc (px_ty kd k)) (M a k) (L a k) (R a k))
    (h : WX own cc mL rt nm d mc ms X QF (pc + 3) lv st sh M' L' R' n cu su) : WX own cc mL rt nm d mc ms X QF pc lv (v :: .ref a :: st) sh M L R n cu su := by
  intro p l e Rm s m args below meth c B D cy sx H locs ls hC hW hnn hS hl
  obtain ⟨⟨h13, hj, hT⟩, hlk⟩ := hf
  obtain ⟨cell, q1, q2, q3, q4⟩ := (hW a _ hs).1 h13
  have h2 := fun H1 locs1 => h p l e Rm s m args below meth c B D cy sx H1 locs1 ls hC
  obtain ⟨hx, hb, -, -, hown, hts, -, hK, hE, hnm, -, hB, -⟩ := hC
  obtain ⟨hSl, hfc, kC, hkC, hkind⟩ := hK.1.1 kd _ (px_cl kd h13)
  obtain ⟨cf, kf, fi, f, hi, hsl⟩ := hSl j hj
  have hap := va_apart (own := own) hts (px_inG kd h13) (px_ty kd) (px_tyok kd h13) (px_nm kd h13) hK.1 (px_cl kd h13)
  have hi2 : s.fieldFound? (px_RC kd) (px_TC kd j).2.1 (px_TC kd j).2.2.1 = some (cf, kf, fi, f) := by rw [← hT]; exact hi
  have hst := (u_facts hfc hkC (u_lays hts (px_inG kd h13) hj) hi).1
  have hlay := hts _ (px_inG kd h13 _ (u_in_lay hj))
  have key : ∀ H' : Heap, H'[B + a]? = some (cell.setSlot f.slot (px_v B sx v)) → H'.size = H.size → (∀ q, q ≠ B + a → H'[q]? = H[q]?) → W p l e Rm s m args below meth c H' (locs ++ [⟨B + a, f.slot⟩]) cu su (QF c below args s B D cy sx) (F0 m (pc + 3) ls (st.map (px_v B sx))) := by
    intro H' e1 e2 e3
    rw [hsl] at e1 ⊢
    refine h2 H' _ (hW.put (a := a) e3 hM hL hR (fun kl hkl => ?_)) (by rw [e2]; exact hnn) (hS.put e2 e3 (Nat.le_add_right B a)) hl
    have ekl : kl = (kd, ln) := Option.some.inj (hkl.symm.trans hs)
    subst ekl
    refine ⟨fun _ => t_OB.to (V := updV (fun i => px_val B (px_tc (px_ty kd i)) (M a i) (L a i) (R a i)) j (px_v B sx v)) ⟨_, e1, q2, q3, t_set q4 hap hj (px_v B sx v)⟩ (fun i hi => ?_), fun q => absurd q (by show ¬ 13 ≤ kd; omega)⟩
    rw [hv B sx i hi]
    rfl
  rcases hfin with hfin | ⟨hfin, hin, hown2, hl1⟩
  · unfold u_lay at hlay
    rw [if_neg (by rw [hfin]; decide)] at hlay
    have h6 := u_store hfc hkC hkind hlay hi (px_tyok kd h13 j hj) (hn B sx).1 (hn B sx).2
    rcases hlk with hl1 | ⟨host, hl1⟩
    · exact W.putK hx hb (f := f) ⟨hown, hts _ hl1, ⟨_, _, _, hi2⟩, hst⟩ (by rw [q2]; exact h6) q1 q3 (by rw [hsl]; exact k2_hasslot (q4 j hj)) rfl rfl hd key
    · exact va_WputK hx hb (f := f) hown (va_Nw.use rfl (hE.1.1 _ hl1)) hi2 hst (by rw [q2]; exact h6) q1 q3 (by rw [hsl]; exact k2_hasslot (q4 j hj)) rfl rfl hd key
  · unfold u_lay at hlay
    rw [if_pos hfin] at hlay
    have hcf : m.cls = cf := by
      obtain ⟨_, _, c', _, _, _, -, -, hf', -, -, -, hown3, -⟩ := Cond.laysFinal_spec hlay
      have e1 : c' = cf := by have := hi.symm.trans hf'; simp at this; exact this.1.symm
      rw [hT, ← hown2] at hown3
      rw [← e1]
      exact Option.some.inj (hown.symm.trans hown3)
    have h6 := u_fits hfc hkC hkind (Or.inr hlay) hi (px_tyok kd h13 j hj) (hn B sx).1 (hn B sx).2
    exact W.putFinK hx hb hown (hts _ hl1) hi2 hst hcf (by rw [hnm.1]; exact hin) (by rw [q2]; exact h6) q1 q3 (by rw [hsl]; exact k2_hasslot (q4 j hj)) rfl rfl hd key
theorem px_valI {B t : Nat} (ht : t = 0) (x : Int32) (y : Int64) (r : Option Nat) : px_val B t x y r = .int x := by rw [ht]; rfl
theorem px_valL {B t : Nat} (ht : t = 1) (x : Int32) (y : Int64) (r : Option Nat) : px_val B t x y r = .long y := by rw [ht]; rfl
theorem px_valR {B t : Nat} (ht : t = 2) (x : Int32) (y : Int64) (r : Option Nat) : px_val B t x y r = va_rf (r.map (fun a => B + a)) := by rw [ht]; rfl
abbrev px_fin (own : String) (nm : String × List (Nat × Nat × Nat × Nat)) (idx kd j : Nat) : Prop := (px_TC kd j).2.2.2 = false ∨ ((px_TC kd j).2.2.2 = true ∧ nm.1 = "<init>" ∧ own = px_RC kd ∧ Cond.fieldLink own idx (px_RC kd) (px_TC kd j).2.1 (px_TC kd j).2.2.1 ∈ px_G)
theorem wx_putI {idx kd ln j a : Nat} {x : Int32} (hd : decode cc pc = .ok (.putfield idx, 3)) (hf : px_fl own idx kd j) (hs : sh a = some (kd, ln)) (hfin : px_fin own nm idx kd j) (ht : px_tc (px_ty kd j) = 0) (hn : narrow (px_ty kd j) (.int x) = .int x ∧ fits (px_ty kd j) (.int x) = true)
    (h : WX own cc mL rt nm d mc ms X QF (pc + 3) lv st sh (px_u M a j x) L R n cu su) : WX own cc mL rt nm d mc ms X QF pc lv (.int x :: .ref a :: st) sh M L R n cu su :=
  wx_putv hd hf hs hfin (fun _ _ => hn) (fun b hb => px_u_ne M j x hb) (fun _ _ => rfl) (fun _ _ => rfl) (fun B sx k hk => by
    by_cases e : k = j
    · subst e
      rw [px_u_in, if_pos rfl, px_valI ht]
      rfl
    · rw [px_u_nj M x e, if_neg e]) h
theorem wx_putL {idx kd ln j a : Nat} {x : Int64} (hd : decode cc pc = .ok (.putfield idx, 3)) (hf : px_fl own idx kd j) (hs : sh a = some (kd, ln)) (hfin : px_fin own nm idx kd j) (ht : px_tc (px_ty kd j) = 1) (hn : narrow (px_ty kd j) (.long x) = .long x ∧ fits (px_ty kd j) (.long x) = true)
    (h : WX own cc mL rt nm d mc ms X QF (pc + 3) lv st sh M (px_u L a j x) R n cu su) : WX own cc mL rt nm d mc ms X QF pc lv (.long x :: .ref a :: st) sh M L R n cu su :=
  wx_putv hd hf hs hfin (fun _ _ => hn) (fun _ _ => rfl) (fun b hb => px_u_ne L j x hb) (fun _ _ => rfl) (fun B sx k hk => by
    by_cases e : k = j
    · subst e
      rw [px_u_in, if_pos rfl, px_valL ht]
      rfl
    · rw [px_u_nj L x e, if_neg e]) h
theorem wx_putR {idx kd ln j a b : Nat} (hd : decode cc pc = .ok (.putfield idx, 3)) (hf : px_fl own idx kd j) (hs : sh a = some (kd, ln)) (hfin : px_fin own nm idx kd j) (ht : px_tc (px_ty kd j) = 2) (hn : ∀ q : Nat, narrow (px_ty kd j) (.ref q) = .ref q ∧ fits (px_ty kd j) (.ref q) = true)
    (h : WX own cc mL rt nm d mc ms X QF (pc + 3) lv st sh M L (px_u R a j (some b)) n cu su) : WX own cc mL rt nm d mc ms X QF pc lv (.ref b :: .ref a :: st) sh M L R n cu su :=
  wx_putv hd hf hs hfin (fun B _ => hn (B + b)) (fun _ _ => rfl) (fun _ _ => rfl) (fun c hc => px_u_ne R j (some b) hc) (fun B sx k hk => by
    by_cases e : k = j
    · subst e
      rw [px_u_in, if_pos rfl, px_valR ht]
      rfl
    · rw [px_u_nj R (some b) e, if_neg e]) h
/-! arrays -/
theorem wx_iald {a ln : Nat} {i : Int32} (hd : decode cc pc = .ok (.iaload, 1)) (hs : sh a = some (13, ln)) (hi : vp_in i ln) (h : WX own cc mL rt nm d mc ms X QF (pc + 1) lv (.int (M a i.toNatClampNeg) :: st) sh M L R n cu su) : WX own cc mL rt nm d mc ms X QF pc lv (.int i :: .ref a :: st) sh M L R n cu su := by
  intro p l e Rm s m args below meth c B D cy sx H locs ls hC hW hn hS hl
  have hat := (hW a _ hs).2 (Nat.le_refl 13)
  have hlt : i.toNatClampNeg < ln := Nat.not_le.mp fun q => hi (Or.inr q)
  exact W.iald (v := .int (M a i.toNatClampNeg)) hC.1 hC.2.1 hat (hC.2.2.2.2.2.2.2.1.arr 13 (by decide) (by decide) _ _) (fun q => by cases q) (by rw [arrV_size]; exact hi) (by rw [arrV_read _ _ hlt]; rfl) rfl rfl hd (h p l e Rm s m args below meth c B D cy sx H locs ls hC hW hn hS hl)
theorem wx_bald {a ln : Nat} {i : Int32} (hd : decode cc pc = .ok (.baload, 1)) (hs : sh a = some (15, ln)) (hi : vp_in i ln) (h : WX own cc mL rt nm d mc ms X QF (pc + 1) lv (.int (M a i.toNatClampNeg) :: st) sh M L R n cu su) : WX own cc mL rt nm d mc ms X QF pc lv (.int i :: .ref a :: st) sh M L R n cu su := by
  intro p l e Rm s m args below meth c B D cy sx H locs ls hC hW hn hS hl
  have hat := (hW a _ hs).2 (Nat.le_of_ble_eq_true rfl)
  have hlt : i.toNatClampNeg < ln := Nat.not_le.mp fun q => hi (Or.inr q)
  exact W.zald (v := .int (M a i.toNatClampNeg)) hC.1 hC.2.1 hat (hC.2.2.2.2.2.2.2.1.arr 15 (by decide) (by decide) _ _) (fun q => by cases q) (by rw [arrV_size]; exact hi) (by rw [arrV_read _ _ hlt]; rfl) rfl rfl hd (h p l e Rm s m args below meth c B D cy sx H locs ls hC hW hn hS hl)
theorem wx_lald {a ln : Nat} {i : Int32} (hd : decode cc pc = .ok (.laload, 1)) (hs : sh a = some (14, ln)) (hi : vp_in i ln) (h : WX own cc mL rt nm d mc ms X QF (pc + 1) lv (.long (L a i.toNatClampNeg) :: st) sh M L R n cu su) : WX own cc mL rt nm d mc ms X QF pc lv (.int i :: .ref a :: st) sh M L R n cu su := by
  intro p l e Rm s m args below meth c B D cy sx H locs ls hC hW hn hS hl
  have hat := (hW a _ hs).2 (Nat.le_of_ble_eq_true rfl)
  have hlt : i.toNatClampNeg < ln := Nat.not_le.mp fun q => hi (Or.inr q)
  exact W.lald (v := .long (L a i.toNatClampNeg)) hC.1 hC.2.1 hat (hC.2.2.2.2.2.2.2.1.arr 14 (by decide) (by decide) _ _) (fun q => by cases q) (by rw [arrV_size]; exact hi) (by rw [arrV_read _ _ hlt]; rfl) rfl rfl hd (h p l e Rm s m args below meth c B D cy sx H locs ls hC hW hn hS hl)
theorem px_isref (kd : Nat) (h : 16 ≤ kd) : (px_et kd).isReference = true ∧ px_tc (px_et kd) = 2 := match kd, h with
  | 16, _ => ⟨rfl, rfl⟩
  | 17, _ => ⟨rfl, rfl⟩
  | 18, _ => ⟨rfl, rfl⟩
  | k + 19, _ => ⟨rfl, rfl⟩
theorem wx_aald {a ln kd b : Nat} {i : Int32} (hd : decode cc pc = .ok (.aaload, 1)) (hs : sh a = some (kd, ln)) (hk1 : 16 ≤ kd) (hk2 : kd < 20) (hi : vp_in i ln) (hr : R a i.toNatClampNeg = some b) (h : WX own cc mL rt nm d mc ms X QF (pc + 1) lv (.ref b :: st) sh M L R n cu su) : WX own cc mL rt nm d mc ms X QF pc lv (.int i :: .ref a :: st) sh M L R n cu su := by
  intro p l e Rm s m args below meth c B D cy sx H locs ls hC hW hn hS hl
  have hat := (hW a _ hs).2 (by show 13 ≤ kd; omega)
  have hlt : i.toNatClampNeg < ln := Nat.not_le.mp fun q => hi (Or.inr q)
  exact W.aald (v := .ref (B + b)) (ty := px_et kd) hC.1 hC.2.1 hat (hC.2.2.2.2.2.2.2.1.arr kd (by omega) hk2 _ _) (px_isref kd hk1).1 (fun q => by cases q) (by rw [arrV_size]; exact hi) (by rw [arrV_read _ _ hlt, px_valR (px_isref kd hk1).2, hr]; rfl) rfl rfl hd (h p l e Rm s m args below meth c B D cy sx H locs ls hC hW hn hS hl)
theorem wx_iast {a ln : Nat} {i x : Int32} (hd : decode cc pc = .ok (.iastore, 1)) (hs : sh a = some (13, ln)) (hi : vp_in i ln) (h : WX own cc mL rt nm d mc ms X QF (pc + 1) lv st sh (px_u M a i.toNatClampNeg x) L R n cu su) : WX own cc mL rt nm d mc ms X QF pc lv (.int x :: .int i :: .ref a :: st) sh M L R n cu su := by
  intro p l e Rm s m args below meth c B D cy sx H locs ls hC hW hn hS hl
  have hat := (hW a _ hs).2 (Nat.le_refl 13)
  refine W.iast hC.1 hC.2.1 hat (hC.2.2.2.2.2.2.2.1.arr 13 (by decide) (by decide) _ _) (fun q => by cases q) (by rw [arrV_size]; exact hi) rfl rfl hd fun H1 e1 z oq => ?_
  refine h p l e Rm s m args below meth c B D cy sx H1 _ ls hC (hW.put (a := a) oq (fun b hb => px_u_ne M _ x hb) (fun _ _ => rfl) (fun _ _ => rfl) (fun kl hkl => ?_)) (by rw [z]; exact hn) (hS.put z oq (Nat.le_add_right B a)) hl
  have ekl : kl = (13, ln) := Option.some.inj (hkl.symm.trans hs)
  subst ekl
  refine ⟨fun q => absurd q (Nat.not_lt.mpr (Nat.le_of_ble_eq_true rfl)), fun _ => ?_⟩
  rw [e1, arrV_store]
  congr 2
  funext j
  by_cases ej : j = i.toNatClampNeg
  · subst ej
    rw [px_u_in]
    simp [updV]
    rfl
  · rw [px_u_nj M x ej]
    simp [updV, ej]
theorem wx_bast {a ln : Nat} {i x : Int32} (hd : decode cc pc = .ok (.bastore, 1)) (hs : sh a = some (15, ln)) (hi : vp_in i ln) (hx : narrow .boolean (.int x) = .int x) (h : WX own cc mL rt nm d mc ms X QF (pc + 1) lv st sh (px_u M a i.toNatClampNeg x) L R n cu su) : WX own cc mL rt nm d mc ms X QF pc lv (.int x :: .int i :: .ref a :: st) sh M L R n cu su := by
  intro p l e Rm s m args below meth c B D cy sx H locs ls hC hW hn hS hl
  have hat := (hW a _ hs).2 (Nat.le_of_ble_eq_true rfl)
  refine W.zast hC.1 hC.2.1 hat (hC.2.2.2.2.2.2.2.1.arr 15 (by decide) (by decide) _ _) (fun q => by cases q) (by rw [arrV_size]; exact hi) rfl rfl hd fun H1 e1 z oq => ?_
  refine h p l e Rm s m args below meth c B D cy sx H1 _ ls hC (hW.put (a := a) oq (fun b hb => px_u_ne M _ x hb) (fun _ _ => rfl) (fun _ _ => rfl) (fun kl hkl => ?_)) (by rw [z]; exact hn) (hS.put z oq (Nat.le_add_right B a)) hl
  have ekl : kl = (15, ln) := Option.some.inj (hkl.symm.trans hs)
  subst ekl
  refine ⟨fun q => absurd q (Nat.not_lt.mpr (Nat.le_of_ble_eq_true rfl)), fun _ => ?_⟩
  rw [e1, hx, arrV_store]
  congr 2
  funext j
  by_cases ej : j = i.toNatClampNeg
  · subst ej
    rw [px_u_in]
    simp [updV]
    rfl
  · rw [px_u_nj M x ej]
    simp [updV, ej]
theorem wx_last {a ln : Nat} {i : Int32} {x : Int64} (hd : decode cc pc = .ok (.lastore, 1)) (hs : sh a = some (14, ln)) (hi : vp_in i ln) (h : WX own cc mL rt nm d mc ms X QF (pc + 1) lv st sh M (px_u L a i.toNatClampNeg x) R n cu su) : WX own cc mL rt nm d mc ms X QF pc lv (.long x :: .int i :: .ref a :: st) sh M L R n cu su := by
  intro p l e Rm s m args below meth c B D cy sx H locs ls hC hW hn hS hl
  have hat := (hW a _ hs).2 (Nat.le_of_ble_eq_true rfl)
  refine W.last hC.1 hC.2.1 hat (hC.2.2.2.2.2.2.2.1.arr 14 (by decide) (by decide) _ _) (fun q => by cases q) (by rw [arrV_size]; exact hi) rfl rfl hd fun H1 e1 z oq => ?_
  refine h p l e Rm s m args below meth c B D cy sx H1 _ ls hC (hW.put (a := a) oq (fun _ _ => rfl) (fun b hb => px_u_ne L _ x hb) (fun _ _ => rfl) (fun kl hkl => ?_)) (by rw [z]; exact hn) (hS.put z oq (Nat.le_add_right B a)) hl
  have ekl : kl = (14, ln) := Option.some.inj (hkl.symm.trans hs)
  subst ekl
  refine ⟨fun q => absurd q (Nat.not_lt.mpr (Nat.le_of_ble_eq_true rfl)), fun _ => ?_⟩
  rw [e1, arrV_store]
  congr 2
  funext j
  by_cases ej : j = i.toNatClampNeg
  · subst ej
    rw [px_u_in]
    simp [updV]
    rfl
  · rw [px_u_nj L x ej]
    simp [updV, ej]
theorem wx_alen {a ln kd : Nat} (hd : decode cc pc = .ok (.arraylength, 1)) (hs : sh a = some (kd, ln)) (hk1 : 13 ≤ kd) (hk2 : kd < 20) (h : WX own cc mL rt nm d mc ms X QF (pc + 1) lv (.int (nI ln) :: st) sh M L R n cu su) : WX own cc mL rt nm d mc ms X QF pc lv (.ref a :: st) sh M L R n cu su := by
  intro p l e Rm s m args below meth c B D cy sx H locs ls hC hW hn hS hl
  have hat := (hW a _ hs).2 (by show 13 ≤ kd; omega)
  exact W.alen (n := nI ln) hC.1 hC.2.1 hat (hC.2.2.2.2.2.2.2.1.arr kd hk1 hk2 _ _) (by rw [arrV_size]; rfl) rfl rfl hd (h p l e Rm s m args below meth c B D cy sx H locs ls hC hW hn hS hl)
end PXH
