/-! switches, constants, statics, the script, new things -/
theorem px_asgA (vm : Vm) (k : Nat) (c : ClassId) : vm.assignableAux (k + 1) c c = true := by
  rw [Vm.assignableAux]
  simp
theorem px_asg (vm : Vm) (c : ClassId) : vm.assignable c c = true := px_asgA vm 255 c
section PXM
variable {own : String} {cc : ByteArray} {mL : Nat} {rt : Option FieldType} {nm : String × List (Nat × Nat × Nat × Nat)} {d mc ms : Nat} {X : Nat × (Nat → Int32)} {QF : px_F} {pc : Nat} {lv lv' : List (Nat × Value)} {st : List Value} {sh : px_Sh} {M M' : px_M} {L L' : px_L} {R R' : px_R} {n cu su : Nat}
theorem wx_tsOut {dflt lo hi : Int} {offs : Array Int} {len : Nat} {x : Int32} {tgt : Nat} (hd : decode cc pc = .ok (.tableswitch dflt lo hi offs, len)) (hx : x.toInt < lo ∨ hi < x.toInt) (ht : (pc : Int) + dflt = (tgt : Int)) (h : WX own cc mL rt nm d mc ms X QF tgt lv st sh M L R n cu su) : WX own cc mL rt nm d mc ms X QF pc lv (.int x :: st) sh M L R n cu su := by
  intro p l e Rm s m args below meth c B D cy sx H locs ls hC hW hn hS hl
  exact lv_tableOut hC.1 hC.2.1 hd hx ht (h p l e Rm s m args below meth c B D cy sx H locs ls hC hW hn hS hl)
theorem wx_tsIn {dflt lo hi off : Int} {offs : Array Int} {len : Nat} {x : Int32} {tgt : Nat} (hd : decode cc pc = .ok (.tableswitch dflt lo hi offs, len)) (h1 : ¬ x.toInt < lo) (h2 : ¬ hi < x.toInt) (ho : offs[(x.toInt - lo).toNat]? = some off) (ht : (pc : Int) + off = (tgt : Int)) (h : WX own cc mL rt nm d mc ms X QF tgt lv st sh M L R n cu su) : WX own cc mL rt nm d mc ms X QF pc lv (.int x :: st) sh M L R n cu su := by
  intro p l e Rm s m args below meth c B D cy sx H locs ls hC hW hn hS hl
  exact lv_tableIn hC.1 hC.2.1 hd h1 h2 ho ht (h p l e Rm s m args below meth c B D cy sx H locs ls hC hW hn hS hl)
theorem wx_ls {dflt off : Int} {ps : Array (Int × Int)} {len : Nat} {x : Int32} {tgt : Nat} (hd : decode cc pc = .ok (.lookupswitch dflt ps, len)) (hp : (ps.toList.zip (ps.toList.drop 1)).all (fun (a, next) => a.1 < next.1) = true) (ho : Op.lookupswitch.offset ps.toList dflt x.toInt = off) (ht : (pc : Int) + off = (tgt : Int)) (h : WX own cc mL rt nm d mc ms X QF tgt lv st sh M L R n cu su) : WX own cc mL rt nm d mc ms X QF pc lv (.int x :: st) sh M L R n cu su := by
  intro p l e Rm s m args below meth c B D cy sx H locs ls hC hW hn hS hl
  exact lv_lookup hC.1 hC.2.1 hd hp ho ht (h p l e Rm s m args below meth c B D cy sx H locs ls hC hW hn hS hl)
theorem wx_dup2_11 {v w : Value} (hd : decode cc pc = .ok (.dup2, 1)) (hv : v.category = 1) (hw : w.category = 1) (h : WX own cc mL rt nm d mc ms X QF (pc + 1) lv (v :: w :: v :: w :: st) sh M L R n cu su) : WX own cc mL rt nm d mc ms X QF pc lv (v :: w :: st) sh M L R n cu su := by
  intro p l e Rm s m args below meth c B D cy sx H locs ls hC hW hn hS hl
  exact lv_dup2_11 hC.1 hC.2.1 hd ((px_v_cat B sx v).trans hv) ((px_v_cat B sx w).trans hw) (h p l e Rm s m args below meth c B D cy sx H locs ls hC hW hn hS hl)
theorem wx_dup2_2 {v : Value} (hd : decode cc pc = .ok (.dup2, 1)) (hv : v.category = 2) (h : WX own cc mL rt nm d mc ms X QF (pc + 1) lv (v :: v :: st) sh M L R n cu su) : WX own cc mL rt nm d mc ms X QF pc lv (v :: st) sh M L R n cu su := by
  intro p l e Rm s m args below meth c B D cy sx H locs ls hC hW hn hS hl
  exact lv_dup2_2 hC.1 hC.2.1 hd ((px_v_cat B sx v).trans hv) (h p l e Rm s m args below meth c B D cy sx H locs ls hC hW hn hS hl)
theorem wx_ldc {idx : Nat} {v : Int32} (hd : decode cc pc = .ok (.ldc idx, 2)) (hk : Cond.constant own idx v ∈ px_G) (h : WX own cc mL rt nm d mc ms X QF (pc + 2) lv (.int v :: st) sh M L R n cu su) : WX own cc mL rt nm d mc ms X QF pc lv st sh M L R n cu su := by
  intro p l e Rm s m args below meth c B D cy sx H locs ls hC hW hn hS hl
  exact lv_ldc hC.1 hC.2.1 hC.2.2.2.2.1 (hC.2.2.2.2.2.1 _ hk) hd (h p l e Rm s m args below meth c B D cy sx H locs ls hC hW hn hS hl)
theorem wx_ldcw {idx : Nat} {v : Int32} (hd : decode cc pc = .ok (.ldc_w idx, 3)) (hk : Cond.constant own idx v ∈ px_G) (h : WX own cc mL rt nm d mc ms X QF (pc + 3) lv (.int v :: st) sh M L R n cu su) : WX own cc mL rt nm d mc ms X QF pc lv st sh M L R n cu su := by
  intro p l e Rm s m args below meth c B D cy sx H locs ls hC hW hn hS hl
  exact lv_ldcw hC.1 hC.2.1 hC.2.2.2.2.1 (hC.2.2.2.2.2.1 _ hk) hd (h p l e Rm s m args below meth c B D cy sx H locs ls hC hW hn hS hl)
theorem wx_ldc2 {idx : Nat} {v : Int64} (hd : decode cc pc = .ok (.ldc2_w idx, 3)) (hk : Cond.constantLong own idx v ∈ px_G) (h : WX own cc mL rt nm d mc ms X QF (pc + 3) lv (.long v :: st) sh M L R n cu su) : WX own cc mL rt nm d mc ms X QF pc lv st sh M L R n cu su := by
  intro p l e Rm s m args below meth c B D cy sx H locs ls hC hW hn hS hl
  exact lv_ldc2 hC.1 hC.2.1 hC.2.2.2.2.1 (hC.2.2.2.2.2.1 _ hk) hd (h p l e Rm s m args below meth c B D cy sx H locs ls hC hW hn hS hl)
theorem wx_ifnonnull {a tgt : Nat} {off : Int} (hd : decode cc pc = .ok (.ifnonnull off, 3)) (ht : (pc : Int) + off = (tgt : Int)) (h : WX own cc mL rt nm d mc ms X QF tgt lv st sh M L R n cu su) : WX own cc mL rt nm d mc ms X QF pc lv (.ref a :: st) sh M L R n cu su := by
  intro p l e Rm s m args below meth c B D cy sx H locs ls hC hW hn hS hl
  exact lv_ifnonnull hC.1 hC.2.1 hd ht (h p l e Rm s m args below meth c B D cy sx H locs ls hC hW hn hS hl)
theorem wx_ifnonnullN {off : Int} (hd : decode cc pc = .ok (.ifnonnull off, 3)) (h : WX own cc mL rt nm d mc ms X QF (pc + 3) lv st sh M L R n cu su) : WX own cc mL rt nm d mc ms X QF pc lv (.null :: st) sh M L R n cu su := by
  intro p l e Rm s m args below meth c B D cy sx H locs ls hC hW hn hS hl
  exact lv_ifnonnullN hC.1 hC.2.1 hd (h p l e Rm s m args below meth c B D cy sx H locs ls hC hW hn hS hl)
theorem wx_cosref {idx : Nat} (hd : decode cc pc = .ok (.getstatic idx, 3)) (hk : Cond.fieldLink own idx RX5 "COS" "[I" ∈ px_G) (h : WX own cc mL rt nm d mc ms X QF (pc + 3) lv (.retAddr 0 :: st) sh M L R n cu su) : WX own cc mL rt nm d mc ms X QF pc lv st sh M L R n cu su := by
  intro p l e Rm s m args below meth c B D cy sx H locs ls hC hW hn hS hl
  have h2 := h p l e Rm s m args below meth c B D cy sx H locs ls hC hW hn hS hl
  obtain ⟨hx, hb, -, -, hown, hts, -, hK, hE, -⟩ := hC
  exact va_gets hx hb hE.2.1.1 hS hown (hts _ hk) (fun _ q => q) hd h2
theorem wx_sinref {idx : Nat} (hd : decode cc pc = .ok (.getstatic idx, 3)) (hk : Cond.fieldLink own idx RX5 "SIN" "[I" ∈ px_G) (h : WX own cc mL rt nm d mc ms X QF (pc + 3) lv (.retAddr 1 :: st) sh M L R n cu su) : WX own cc mL rt nm d mc ms X QF pc lv st sh M L R n cu su := by
  intro p l e Rm s m args below meth c B D cy sx H locs ls hC hW hn hS hl
  have h2 := h p l e Rm s m args below meth c B D cy sx H locs ls hC hW hn hS hl
  obtain ⟨hx, hb, -, -, hown, hts, -, hK, hE, -⟩ := hC
  exact va_gets hx hb hE.2.2.1.1 hS hown (hts _ hk) (fun _ q => q) hd h2
theorem wx_cos {i : Int32} (hd : decode cc pc = .ok (.iaload, 1)) (hi : vp_in i 9) (h : WX own cc mL rt nm d mc ms X QF (pc + 1) lv (.int (px_cos i.toNatClampNeg) :: st) sh M L R n cu su) : WX own cc mL rt nm d mc ms X QF pc lv (.int i :: .retAddr 0 :: st) sh M L R n cu su := by
  intro p l e Rm s m args below meth c B D cy sx H locs ls hC hW hn hS hl
  have h2 := h p l e Rm s m args below meth c B D cy sx H locs ls hC hW hn hS hl
  obtain ⟨hx, hb, -, -, hown, hts, -, hK, hE, -⟩ := hC
  exact va_ti hx hb hE.2.1.2 hS hi rfl hd h2
theorem wx_sin {i : Int32} (hd : decode cc pc = .ok (.iaload, 1)) (hi : vp_in i 9) (h : WX own cc mL rt nm d mc ms X QF (pc + 1) lv (.int (px_sin i.toNatClampNeg) :: st) sh M L R n cu su) : WX own cc mL rt nm d mc ms X QF pc lv (.int i :: .retAddr 1 :: st) sh M L R n cu su := by
  intro p l e Rm s m args below meth c B D cy sx H locs ls hC hW hn hS hl
  have h2 := h p l e Rm s m args below meth c B D cy sx H locs ls hC hW hn hS hl
  obtain ⟨hx, hb, -, -, hown, hts, -, hK, hE, -⟩ := hC
  exact va_ti hx hb hE.2.2.1.2 hS hi rfl hd h2
theorem wx_scr {i : Int32} (hd : decode cc pc = .ok (.iaload, 1)) (hi : vp_in i X.1) (h : WX own cc mL rt nm d mc ms X QF (pc + 1) lv (.int (X.2 i.toNatClampNeg) :: st) sh M L R n cu su) : WX own cc mL rt nm d mc ms X QF pc lv (.int i :: .retAddr 10 :: st) sh M L R n cu su := by
  intro p l e Rm s m args below meth c B D cy sx H locs ls hC hW hn hS hl
  have h2 := h p l e Rm s m args below meth c B D cy sx H locs ls hC hW hn hS hl
  obtain ⟨hx, hb, -, -, hown, hts, -, hK, hE, -, -, hB, -⟩ := hC
  exact va_sld hx hb hE.2.2.2.2.2.1.2.2.1 (Nat.lt_of_lt_of_le hE.2.2.2.2.2.1.2.2.2 hB) (Nat.not_le.mpr hE.2.2.2.2.2.1.2.2.2) hS hi hd h2
theorem wx_scrlen (hd : decode cc pc = .ok (.arraylength, 1)) (h : WX own cc mL rt nm d mc ms X QF (pc + 1) lv (.int (nI X.1) :: st) sh M L R n cu su) : WX own cc mL rt nm d mc ms X QF pc lv (.retAddr 10 :: st) sh M L R n cu su := by
  intro p l e Rm s m args below meth c B D cy sx H locs ls hC hW hn hS hl
  have h2 := h p l e Rm s m args below meth c B D cy sx H locs ls hC hW hn hS hl
  obtain ⟨hx, hb, -, -, hown, hts, -, hK, hE, -, -, hB, -⟩ := hC
  exact va_slen hx hb hE.2.2.2.2.2.1.2.2.1 (Nat.lt_of_lt_of_le hE.2.2.2.2.2.1.2.2.2 hB) (Nat.not_le.mpr hE.2.2.2.2.2.1.2.2.2) hS hd h2
/-- a reference to an object into an array of its class -/
theorem wx_aast {a b ln kd kb lb : Nat} {i : Int32} (hd : decode cc pc = .ok (.aastore, 1)) (hs : sh a = some (kd, ln)) (hk1 : 16 ≤ kd) (hk2 : kd < 20) (hsb : sh b = some (kb, lb)) (hkb : (kb < 13 ∧ px_et kd = .object (px_RC kb)) ∨ (kb = 14 ∧ kd = 18)) (hi : vp_in i ln) (h : WX own cc mL rt nm d mc ms X QF (pc + 1) lv st sh M L (px_u R a i.toNatClampNeg (some b)) n cu su) : WX own cc mL rt nm d mc ms X QF pc lv (.ref b :: .int i :: .ref a :: st) sh M L R n cu su := by
  intro p l e Rm s m args below meth c B D cy sx H locs ls hC hW hn hS hl
  have hat := (hW a _ hs).2 (by show 13 ≤ kd; omega)
  have h2 := fun H1 locs1 => h p l e Rm s m args below meth c B D cy sx H1 locs1 ls hC
  obtain ⟨hx, hb, -, -, hown, hts, -, hK, hE, -, -, hB, -⟩ := hC
  have hlt : i.toNatClampNeg < ln := Nat.not_le.mp fun q => hi (Or.inr q)
  have h0 : ¬ i < 0 := fun q => hi (Or.inl q)
  have key : ∀ H' : Heap, H'[B + a]? = some ((arrV (cy kd) ln (fun j => px_val B (px_tc (px_et kd)) (M a j) (L a j) (R a j))).setSlot i.toNatClampNeg (.ref (B + b))) → H'.size = H.size → (∀ q, q ≠ B + a → H'[q]? = H[q]?) → W p l e Rm s m args below meth c H' (locs ++ [⟨B + a, i.toNatClampNeg⟩]) cu su (QF c below args s B D cy sx) (F0 m (pc + 1) ls (st.map (px_v B sx))) := by
    intro H1 e1 z oq
    refine h2 H1 _ (hW.put (a := a) oq (fun _ _ => rfl) (fun _ _ => rfl) (fun c hc => px_u_ne R _ (some b) hc) (fun kl hkl => ?_)) (by rw [z]; exact hn) (hS.put z oq (Nat.le_add_right B a)) hl
    have ekl : kl = (kd, ln) := Option.some.inj (hkl.symm.trans hs)
    subst ekl
    refine ⟨fun q => absurd q (by show ¬ kd < 13; omega), fun _ => ?_⟩
    rw [e1, arrV_store]
    congr 2
    funext j
    by_cases ej : j = i.toNatClampNeg
    · subst ej
      rw [px_u_in, px_valR (px_isref kd hk1).2]
      simp [updV, va_rf]
    · rw [px_u_nj R (some b) ej]
      simp [updV, ej]
  rcases hkb with ⟨hkb, het⟩ | ⟨rfl, rfl⟩
  · obtain ⟨cell, q1, q2, q3, -⟩ := (hW b _ hsb).1 hkb
    have hra := (hK.1.2 (kd - 13) _ (px_tysat cy kd (by omega) hk2)).2
    have hra2 : va_RA s (cy kd) (.object (px_RC kb)) := by rw [← het]; exact hra
    obtain ⟨kA, comp, r1, r2, r3, -⟩ := hra2
    have hca := (hK.1.1 kb _ (px_cl kb hkb)).2
    have ecomp : comp = D.1 kb := Option.some.inj (r3.symm.trans hca.1)
    subst ecomp
    obtain ⟨-, kv, hkv, -⟩ := id hca
    exact W.aast (t := .object (px_RC kb)) hx hb hat (fun q z => by cases z) (fun q => by cases q) r1 r2 rfl hkv ⟨h0, by rw [arrV_size]; exact hlt⟩ q1 (fun q z => by rw [q3] at z; cases z) (by rw [q2]; exact hkv) (by rw [q2]; exact va_assign hca) rfl rfl hd key
  · have hcb := (hW b _ hsb).2 (Nat.le_of_ble_eq_true rfl)
    obtain ⟨-, k18, k14, r1, r2, r3⟩ := hK
    exact W.aast (t := .array .long) hx hb hat (fun q z => by cases z) (fun q => by cases q) r1 r2 rfl r3 ⟨h0, by rw [arrV_size]; exact hlt⟩ hcb (fun q z => by cases z) r3 (px_asg _ _) rfl rfl hd key
/-! new things: the next cell is number n -/
theorem px_W.new {D : va_G} {cy : Nat → ClassId} {B : Nat} {H H1 : Heap} {kl : Nat × Nat} (hW : px_W D cy B sh M L R H) (hn : H.size = B + n) (o1 : ∀ q, q < B + n → H1[q]? = H[q]?) (ha : px_at D cy B kl (fun _ => 0) (fun _ => 0) (fun _ => none) n H1) :
    px_W D cy B (px_c sh n (some kl)) (px_c M n (fun _ => 0)) (px_c L n (fun _ => 0)) (px_c R n (fun _ => none)) H1 := by
  intro a kl2 h2
  by_cases e : a = n
  · subst e
    rw [px_c_in] at h2
    cases h2
    rw [px_c_in, px_c_in, px_c_in]
    exact ha
  · rw [px_c_ne _ _ e] at h2
    rw [px_c_ne _ _ e, px_c_ne _ _ e, px_c_ne _ _ e]
    have h3 := hW a kl2 h2
    exact h3.kept (o1 _ (by have := h3.lt; omega))
theorem px_dv {B : Nat} {t : FieldType} (h : t ≠ .float ∧ t ≠ .double) : defaultValue t = px_val B (px_tc t) 0 0 none := by
  cases t <;> first | rfl | exact absurd rfl h.1 | exact absurd rfl h.2
theorem px_nofd (kd : Nat) (h : kd < 13) : ∀ j, j < px_N kd → px_ty kd j ≠ .float ∧ px_ty kd j ≠ .double := match kd, h with
  | 0, _ => by decide
  | 1, _ => by decide
  | 2, _ => by decide
  | 3, _ => by decide
  | 4, _ => by decide
  | 5, _ => by decide
  | 6, _ => by decide
  | 7, _ => by decide
  | 8, _ => by decide
  | 9, _ => by decide
  | 10, _ => by decide
  | 11, _ => by decide
  | 12, _ => by decide
  | k + 13, h => absurd h (by omega)
theorem wx_new {idx kd : Nat} (hd : decode cc pc = .ok (.new idx, 3)) (h13 : kd < 13) (hw : Cond.classLink own idx (px_RC kd) ∈ px_G ∧ Cond.instantiable (px_RC kd) (px_N kd) ∈ px_G ∧ Cond.initialized (px_RC kd) ∈ px_G) (hc : cu + 1 ≤ mc) (hs : su + px_N kd ≤ ms)
    (h : WX own cc mL rt nm d mc ms X QF (pc + 3) lv (.ref n :: st) (px_c sh n (some (kd, 0))) (px_c M n (fun _ => 0)) (px_c L n (fun _ => 0)) (px_c R n (fun _ => none)) (n + 1) (cu + 1) (su + px_N kd)) : WX own cc mL rt nm d mc ms X QF pc lv st sh M L R n cu su := by
  intro p l e Rm s m args below meth c B D cy sx H locs ls hC hW hn hS hl
  have h2 := fun H1 locs1 => h p l e Rm s m args below meth c B D cy sx H1 locs1 ls hC
  obtain ⟨hx, hb, -, -, hown, hts, -, hK, hE, -, -, hB, -, -, hce, hsl⟩ := hC
  have hKn := hK.1.1 kd _ (px_cl kd h13)
  refine W.newcK hx hb hown (hts _ hw.1) (hts _ hw.2.1) (hts _ hw.2.2) rfl hd (by omega) (by omega) hKn.2.1 hn fun H1 kC hkC e1 z1 o1 => ?_
  refine h2 H1 locs (hW.new hn o1 ⟨fun _ => (u_born (px_ty kd) hts (px_inG kd h13) hKn hkC e1 (px_tyok kd h13)).to (fun j hj => px_dv (px_nofd kd h13 j hj)), fun q => absurd q (by show ¬ 13 ≤ kd; omega)⟩) (by rw [z1]; omega) ⟨Nat.le_trans hS.1 (by omega), fun q h1 h3 => (o1 q (by have := hS.1; omega)).trans (hS.2.1 q h1 h3), hS.2.2⟩ hl
theorem wx_newarr {at9 : ArrayType} {kd N : Nat} {i : Int32} (hd : decode cc pc = .ok (.newarray at9, 2)) (hk : 13 ≤ kd ∧ kd < 16) (hty : newarray.typeOf at9 = px_et kd) (hw : Cond.arrayClass (px_et kd) ∈ px_G) (hi : ¬ i < 0) (hN : i.toNatClampNeg = N) (hN2 : N ≤ 60000000) (hc : cu + 1 ≤ mc) (hs : su + N ≤ ms)
    (h : WX own cc mL rt nm d mc ms X QF (pc + 2) lv (.ref n :: st) (px_c sh n (some (kd, N))) (px_c M n (fun _ => 0)) (px_c L n (fun _ => 0)) (px_c R n (fun _ => none)) (n + 1) (cu + 1) (su + N)) : WX own cc mL rt nm d mc ms X QF pc lv (.int i :: st) sh M L R n cu su := by
  intro p l e Rm s m args below meth c B D cy sx H locs ls hC hW hn hS hl
  have h2 := fun H1 locs1 => h p l e Rm s m args below meth c B D cy sx H1 locs1 ls hC
  obtain ⟨hx, hb, -, -, hown, hts, -, hK, hE, -, -, hB, -, -, hce, hsl⟩ := hC
  have hbytes : N * componentBytes (newarray.typeOf at9) ≤ 536870912 := by
    rw [hty]
    rcases (show kd = 13 ∨ kd = 14 ∨ kd = 15 by omega) with rfl | rfl | rfl <;> (simp [px_et, componentBytes]; omega)
  refine va_newaK hx hb (by rw [hty]; exact hts _ hw) rfl hd rfl hi hN hbytes (by omega) (by omega) hn fun H1 cA e1 z1 o1 hAr hNm => ?_
  have hcA : cA = cy kd := by
    have hra := (hK.1.2 (kd - 13) _ (px_tysat cy kd hk.1 (by omega))).2
    rw [hty] at hNm
    rcases (show kd = 13 ∨ kd = 14 ∨ kd = 15 by omega) with rfl | rfl | rfl <;> exact Option.some.inj (hNm.symm.trans hra)
  subst hcA
  refine h2 H1 locs (hW.new hn o1 ⟨fun q => absurd q (by show ¬ kd < 13; omega), fun _ => ?_⟩) (by rw [z1]; omega) ⟨Nat.le_trans hS.1 (by omega), fun q h1 h3 => (o1 q (by have := hS.1; omega)).trans (hS.2.1 q h1 h3), hS.2.2⟩ hl
  rw [e1, hty]
  rcases (show kd = 13 ∨ kd = 14 ∨ kd = 15 by omega) with rfl | rfl | rfl <;> rfl
theorem wx_objInit {idx a : Nat} (hd : decode cc pc = .ok (.invokespecial idx, 3)) (hw : Cond.methodLink own idx objectInit ∈ px_G ∧ Cond.instanceMethod objectInit ∈ px_G ∧ Cond.code objectInit ⟨#[0xb1]⟩ 1 none ∈ px_G) (hd1 : 1 ≤ d) (hcat : (st.map fun v => v.category).sum ≤ 8)
    (h : WX own cc mL rt nm d mc ms X QF (pc + 3) lv st sh M L R n cu su) : WX own cc mL rt nm d mc ms X QF pc lv (.ref a :: st) sh M L R n cu su := by
  intro p l e Rm s m args below meth c B D cy sx H locs ls hC hW hn hS hl
  have h2 := h p l e Rm s m args below meth c B D cy sx H locs ls hC hW hn hS hl
  obtain ⟨hx, hb, hml, -, hown, hts, -, hK, hE, -, -, hB, hfr, hlo, -⟩ := hC
  have hcat2 : ((st.map (px_v B sx)).map fun v => v.category).sum ≤ 8 := by
    rw [List.map_map]
    have e9 : (fun v => Value.category v) ∘ px_v B sx = fun v => v.category := funext fun v => px_v_cat B sx v
    rw [e9]
    exact hcat
  have hrm := lv_room (m := m) (pc := pc) (ls := ls) (rest := ((Value.ref a :: st).map (px_v B sx))) hcat2
  exact W.objInit hx hb hown (hts _ hw.1) (hts _ hw.2.1) (hts _ hw.2.2) rfl (hl.1.trans hml.symm) rfl hd (by omega) (by omega) h2
end PXM
