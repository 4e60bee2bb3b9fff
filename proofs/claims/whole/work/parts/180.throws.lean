/-! methods that may throw, and the law's own ones that catch -/
abbrev px_PX : Type := String → px_Sh → px_M → px_L → px_R → Nat → Prop
def px_XC (PX : px_PX) (B : Nat) (D : va_G) (cy : Nat → ClassId) : String → State → State → Prop := fun E st t => ∃ (sh : px_Sh) (M : px_M) (L : px_L) (R : px_R) (n : Nat), PX E sh M L R n ∧ px_W D cy B sh M L R t.heap ∧ t.heap.size = B + n ∧ va_F (px_A B) st t
def MXT (y : MethodName) (cc : ByteArray) (mL : Nat) (rt : Option FieldType) (d mc ms : Nat) (X : Nat × (Nat → Int32)) (av : List Value) (sh : px_Sh) (M : px_M) (L : px_L) (R : px_R) (n : Nat) (Post : px_Post) (PX : px_PX) : Prop :=
  ∀ l : Launch, l.stackTraces = false → ∀ (B : Nat) (D : va_G) (cy : Nat → ClassId) (sx : Nat → Nat), vx_Met l y (.code y cc mL rt :: px_G) { frames := d, cells := mc, slots := ms, locals := 64 * d } (px_P av sh M L R n X B D cy sx) (px_Q Post B D cy sx) (px_XC PX B D cy) mc ms (px_A B)
def px_QX (Post : px_Post) (PX : px_PX) (mc ms : Nat) : px_F := fun _ below args s B D cy sx => vx_MQ below (px_Q Post B D cy sx) (px_XC PX B D cy) args s mc ms (px_A B)
theorem MXT.of {y : MethodName} {cc : ByteArray} {mL : Nat} {rt : Option FieldType} {d mc ms : Nat} {X : Nat × (Nat → Int32)} {av : List Value} {sh : px_Sh} {M : px_M} {L : px_L} {R : px_R} {n : Nat} {Post : px_Post} {PX : px_PX} (hy : plainName y.cls = true) (hav : (lg_sl av).length ≤ mL)
    (h : WX y.cls cc mL rt (y.name, []) d mc ms X (px_QX Post PX mc ms) 0 (lv_args 0 av) [] sh M L R n 0 0) : MXT y cc mL rt d mc ms X av sh M L R n Post PX := by
  intro l hst B D cy sx
  refine vx_ofW (cc := cc) (maxL := mL) (ret := rt) hy rfl ?_
  intro p e s m args below meth c s₁ Bd hml htb hv
  obtain ⟨rfl, ⟨hW, hn⟩, hK, hE⟩ := hv
  have hts := atoms_spec (ws := Cond.code y cc mL rt :: px_G) Bd.pre
  have hown : s.vm.findClass y.cls = some m.cls := findClass_of_methodNamed Bd.named
  have hl := lv_entry (av.map (px_v B sx)) (n := mL) (by rw [px_sl]; exact hav)
  rw [px_args] at hl
  rw [lg_entry_eq]
  exact h p l e _ s m _ below meth c B D cy sx s.heap [] _ ⟨Bd.exec, Bd.bytes, hml, Bd.returns, hown, fun w hw => hts w (List.mem_cons_of_mem _ hw), Bd.notSynchronized, hK, hE, ⟨(name_of_methodNamed Bd.named Bd.method).1, List.eq_nil_iff_forall_not_mem.mpr htb⟩, hst, by omega, Nat.le_refl _, Nat.le_refl _, Nat.le_refl _, Nat.le_refl _⟩ hW hn va_S.rf hl
/-- the law's own methods with a table -/
def MXW (y : MethodName) (cc : ByteArray) (mL : Nat) (rt : Option FieldType) (hh : List (Nat × Nat × Nat × Nat)) (d mc ms : Nat) (X : Nat × (Nat → Int32)) (av : List Value) (sh : px_Sh) (M : px_M) (L : px_L) (R : px_R) (n : Nat) (Post : px_Post) : Prop :=
  ∀ l : Launch, l.stackTraces = false → ∀ (B : Nat) (D : va_G) (cy : Nat → ClassId) (sx : Nat → Nat), Met l y (.codeWith y cc mL rt hh :: px_G) { frames := d, cells := mc, slots := ms, locals := 64 * d } (px_P av sh M L R n X B D cy sx) (px_Q Post B D cy sx) mc ms (px_A B)
theorem MXW.of {y : MethodName} {cc : ByteArray} {mL : Nat} {rt : Option FieldType} {hh : List (Nat × Nat × Nat × Nat)} {d mc ms : Nat} {X : Nat × (Nat → Int32)} {av : List Value} {sh : px_Sh} {M : px_M} {L : px_L} {R : px_R} {n : Nat} {Post : px_Post} (hy : plainName y.cls = true) (hav : (lg_sl av).length ≤ mL)
    (h : WX y.cls cc mL rt (y.name, hh) d mc ms X (px_QF Post mc ms) 0 (lv_args 0 av) [] sh M L R n 0 0) : MXW y cc mL rt hh d mc ms X av sh M L R n Post := by
  intro l hst B D cy sx
  refine MetFree.of_bodyS (code := cc) (maxLocals := mL) (ret := rt) hy ?_ ?_
  · intro args s m h hn
    obtain ⟨m9, meth, c, hn9, h1, h2, h3, h4, -, h5, h6, -⟩ := Cond.codeWith_spec (atoms_spec (ws := Cond.codeWith y cc mL rt hh :: px_G) h _ List.mem_cons_self)
    cases hn.symm.trans hn9
    exact ⟨meth, c, h1, h2, h3, h4, h5, h6⟩
  · intro p e s m args below meth c s₁ Bd hml hv _
    have hh0 : s₁.heap = s.heap := by rw [Bd.state]; rfl
    obtain ⟨rfl, ⟨hW, hn⟩, hK, hE⟩ := hv
    have hts := atoms_spec (ws := Cond.codeWith y cc mL rt hh :: px_G) Bd.pre
    have hown : s.vm.findClass y.cls = some m.cls := findClass_of_methodNamed Bd.named
    have hl := lv_entry (av.map (px_v B sx)) (n := mL) (by rw [px_sl]; exact hav)
    rw [px_args] at hl
    have htb := vx_table (x := y) Bd (hts _ List.mem_cons_self)
    have K := h p l e { frames := d, cells := mc, slots := ms, locals := 64 * d } s m _ below meth c B D cy sx s.heap [] _ ⟨Bd.exec, Bd.bytes, hml, Bd.returns, hown, fun w hw => hts w (List.mem_cons_of_mem _ hw), Bd.notSynchronized, hK, hE, ⟨(name_of_methodNamed Bd.named Bd.method).1, htb⟩, hst, by omega, Nat.le_refl _, Nat.le_refl _, Nat.le_refl _, Nat.le_refl _⟩ hW hn va_S.rf hl
    rw [show (([] : List Value).map (px_v B sx)) = [] from rfl, ← lg_entry_eq] at K
    obtain ⟨t, a1, o, b1, b2, b3⟩ := K s₁ hh0 (Stand.of_body Bd)
    exact ⟨t, o, a1, b1, b2, ⟨b3.1, b3.2⟩⟩
section PXT
variable {own : String} {cc : ByteArray} {mL : Nat} {rt : Option FieldType} {nm : String × List (Nat × Nat × Nat × Nat)} {d mc ms : Nat} {X : Nat × (Nat → Int32)} {QF : px_F} {Post Post2 : px_Post} {PX PX2 : px_PX} {pc : Nat} {lv lv' : List (Nat × Value)} {st : List Value} {sh : px_Sh} {M M' : px_M} {L L' : px_L} {R R' : px_R} {n cu su : Nat}
theorem wx_rx (h : WX own cc mL rt nm d mc ms X (px_QF Post mc ms) pc lv st sh M L R n cu su) : WX own cc mL rt nm d mc ms X (px_QX Post PX mc ms) pc lv st sh M L R n cu su := by
  intro p l e Rm s m args below meth c B D cy sx H locs ls hC hW hn hS hl
  exact vx_ret (h p l e Rm s m args below meth c B D cy sx H locs ls hC hW hn hS hl)
theorem px_W.grow {D : va_G} {cy : Nat → ClassId} {B : Nat} {H H1 : Heap} (hW : px_W D cy B sh M L R H) (o1 : ∀ q, q < H.size → H1[q]? = H[q]?) : px_W D cy B sh M L R H1 := fun a kl h => (hW a kl h).kept (o1 _ (hW a kl h).lt)
/-- 'throw new cls(text)' -/
theorem wx_throw {ik is ic k : Nat} {cls text n0 : String} (hstr : ∀ (B : Nat) (sx : Nat → Nat) (X : Nat × (Nat → Int32)) (U : State) (H : Heap), px_E B sx X U H → vk_R RX11 is text (sx k) U) (htw : px_tw ik ic cls) (hfit : Bundle.fit cls = true)
    (d0 : decode cc pc = .ok (.new ik, 3)) (d3 : decode cc (pc + 3) = .ok (.dup, 1)) (d4 : decode cc (pc + 4) = .ok (.ldc_w is, 3)) (d7 : decode cc (pc + 7) = .ok (.invokespecial ic, 3)) (d10 : decode cc (pc + 10) = .ok (.athrow, 1))
    (hd : 6 ≤ d) (hcat : (st.map fun v => v.category).sum ≤ 8) (hc : cu + 1 ≤ mc) (hs : su + 6 ≤ ms) (hx : ∀ n', n ≤ n' → PX cls sh M L R n') : WX RX11 cc mL rt (n0, []) d mc ms X (px_QX Post PX mc ms) pc lv st sh M L R n cu su := by
  intro p l e Rm s m args below meth c B D cy sx H locs ls hC hW hn hS hl
  obtain ⟨hxx, hb, hml, -, hown, hts, hlocks, hK, hE, ⟨-, htb⟩, hst, hB, hfr, hlo, hce, hsl⟩ := hC
  have htb2 : c.exceptionTable.toList = [] := htb
  have hcat2 : ((st.map (px_v B sx)).map fun v => v.category).sum ≤ 8 := by
    rw [List.map_map]
    have e9 : (fun v => Value.category v) ∘ px_v B sx = fun v => v.category := funext fun v => px_v_cat B sx v
    rw [e9]
    exact hcat
  have hgw : ∀ w, w ∈ lw_tbl → (goodWord w = true ∨ px_isE w = true) → w.before args s = true := by
    intro w h1 h2
    rcases h2 with h2 | h2
    · exact hts w (List.mem_filter.mpr ⟨h1, h2⟩)
    · have h3 := hE.1.1 w (List.mem_filter.mpr ⟨h1, h2⟩)
      cases w <;> first | exact va_Nw.use rfl h3 | (exact absurd h2 (by simp [px_isE]))
  refine vx_throwSW (cls := cls) (text := text) (names := ["java/lang/RuntimeException", "java/lang/Exception"]) (A := px_A B) hxx hb hst hown hfit (by decide) (hts _ htw.1) (hts _ htw.2.1) (hstr _ _ _ _ _ hE) (fun w hw => hgw w (htw.2.2 w hw).1 (htw.2.2 w hw).2) ?_ hE.2.2.2.2.1.1 hE.2.2.2.2.1.2 hS (hl.1.trans hml.symm) d0 d3 d4 d7 d10 (fun x hx => by rw [htb2] at hx; cases hx) (by show 2 + 3 < _; omega) (by show _ + (13 * (2 + 1) + 43) ≤ _; omega) (by omega) (by omega) hlocks ?_ hS.2.2 hc hs
  · intro w hw
    rcases List.mem_cons.mp hw with rfl | hw
    · rfl
    · rcases List.mem_cons.mp hw with rfl | hw
      · rfl
      · have h2 := (htw.2.2 w hw).2
        unfold vx_ot
        rcases h2 with h2 | h2
        · rw [h2, Bool.or_true]
        · cases w <;> first | rfl | (exact absurd h2 (by simp [px_isE]))
  · intro t hal hz hk
    refine ⟨sh, M, L, R, t.heap.size - B, hx _ (by omega), hW.grow hk, by omega, ⟨Nat.le_trans hS.1 hz, fun q h1 h2 => (hk q (Nat.lt_of_lt_of_le h1 hS.1)).trans (hS.2.1 q h1 h2)⟩⟩
/-- behind a call that may throw -/
theorem px_callX {p : Program} {l : Launch} {e : Env} {Rm : Room} {s : State} {m : MethodId} {args : Array Value} {below : List Frame} {meth : Method} {c : Code} {B : Nat} {D : va_G} {cy : Nat → ClassId} {sx : Nat → Nat} {H : Heap} {locs : List Loc} {mc2 ms2 : Nat} {ls : Array Slot} {st0 rest : List Value} {a : Array Value} {Q : State → Prop}
    (hr : vx_Run p l e Rm s m args below meth c H locs cu su mc2 ms2 (F0 m pc ls st0) rest (px_Q Post B D cy sx a) (px_XC PX B D cy) (px_A B)) (hS : va_S (px_A B) s.heap H locs)
    (kx : ∀ (E : String) (ce : Cell) (q : Addr) (sh' : px_Sh) (M' : px_M) (L' : px_L) (R' : px_R) (n' : Nat) (H1 : Heap) (locs1 : List Loc), PX E sh' M' L' R' n' → px_W D cy B sh' M' L' R' H1 → H1.size = B + n' → va_S (px_A B) s.heap H1 locs1 → H1[q]? = some ce → ce.vm = .none → s.vm.findClass E = some ce.cls → vx_W p l e Rm s m args below meth c H1 locs1 (cu + mc2) (su + ms2) Q (F0 m pc ls rest) q)
    (kk : ∀ (v : Option Value) (sh' : px_Sh) (M' : px_M) (L' : px_L) (R' : px_R) (n' : Nat) (H1 : Heap) (locs1 : List Loc), Post v sh' M' L' R' n' → px_W D cy B sh' M' L' R' H1 → H1.size = B + n' → va_S (px_A B) s.heap H1 locs1 → W p l e Rm s m args below meth c H1 locs1 (cu + mc2) (su + ms2) Q (F0 m (pc + 3) ls ((v.map (px_v B sx)).toList ++ rest))) :
    W p l e Rm s m args below meth c H locs cu su Q (F0 m pc ls st0) := by
  intro T hT XX
  rcases hr T hT XX with ⟨v, st₀, t, T', Lc, h0, X', hL, e1, e2, ⟨⟨w, sh', M', L', R', n', hv, hp, hw, hz⟩, hF⟩, stp⟩ | ⟨q, st₀, t, T', Lc, E, ce, h0, X', hL, e1, e2, ⟨sh', M', L', R', n', hp, hw, hz, hF⟩, hce, hcv, hcl, stp⟩
  · cases hv
    obtain ⟨-, -, k3⟩ := vx_keep h0 e1 hS (fun _ _ h => h) (fun _ h => h) hL hF
    obtain ⟨t2, a1, b1⟩ := kk w sh' M' L' R' n' T'.heap (locs ++ Lc) hp (by rw [e1]; exact hw) (by rw [e1]; exact hz) k3 T' rfl X'
    exact ⟨t2, stp t2 a1, b1⟩
  · obtain ⟨-, -, k3⟩ := vx_keep h0 e1 hS (fun _ _ h => h) (fun _ h => h) hL hF
    obtain ⟨t2, a1, b1⟩ := kx E ce q sh' M' L' R' n' T'.heap (locs ++ Lc) hp (by rw [e1]; exact hw) (by rw [e1]; exact hz) k3 (by rw [e1]; exact hce) hcv hcl T' rfl X'
    exact ⟨t2, stp.trans a1, b1⟩
/-- a static call of a method that may throw, out of one that lets it through -/
theorem wx_callSX {idx : Nat} {y : MethodName} {c2 : ByteArray} {n0 : String} {mL2 d2 mc2 ms2 : Nat} {rt2 : Option FieldType} {av st0 : List Value} (hd : decode cc pc = .ok (.invokestatic idx, 3)) (hl : Cond.methodLink own idx y ∈ px_G) (hy : px_my y c2 mL2 rt2 av.length) (hst : Cond.static y ∈ px_G)
    (hM : MXT y c2 mL2 rt2 d2 mc2 ms2 X av sh M L R n Post2 PX2) (h0 : st0 = av.reverse ++ st) (hdd : d2 + 1 ≤ d) (hcat : (st.map fun v => v.category).sum ≤ 8) (hmc : cu + mc2 ≤ mc) (hms : su + ms2 ≤ ms)
    (hx : ∀ E sh' M' L' R' n', PX2 E sh' M' L' R' n' → PX E sh' M' L' R' n')
    (h : ∀ v sh' M' L' R' n', Post2 v sh' M' L' R' n' → WX own cc mL rt (n0, []) d mc ms X (px_QX Post PX mc ms) (pc + 3) lv (v.toList ++ st) sh' M' L' R' n' (cu + mc2) (su + ms2)) : WX own cc mL rt (n0, []) d mc ms X (px_QX Post PX mc ms) pc lv st0 sh M L R n cu su := by
  intro p l e Rm s m args below meth c B D cy sx H locs ls hC hW hn hS hll
  subst h0
  have hst2 := px_start hC hW hn hS av
  have h2 := fun v sh' M' L' R' n' hp H1 locs1 => h v sh' M' L' R' n' hp p l e Rm s m args below meth c B D cy sx H1 locs1 ls hC
  obtain ⟨hxx, hb, hml, -, hown, hts, hlocks, hK, hE, ⟨-, htb⟩, hlt, -, hfr, hlo, hce, hsl⟩ := hC
  have htb2 : c.exceptionTable.toList = [] := htb
  have hcat2 : ((st.map (px_v B sx)).map fun v => v.category).sum ≤ 8 := by
    rw [List.map_map]
    have e9 : (fun v => Value.category v) ∘ px_v B sx = fun v => v.category := funext fun v => px_v_cat B sx v
    rw [e9]
    exact hcat
  have hstk : (F0 m pc ls ((av.reverse ++ st).map (px_v B sx))).stack = (av.map (px_v B sx)).reverse ++ st.map (px_v B sx) := by
    show (av.reverse ++ st).map (px_v B sx) = _
    rw [List.map_append, List.map_reverse]
  have hrun := vx_runS (rest := st.map (px_v B sx)) (locs := locs) (cells := cu) (slots := su) (e := e) (below := below) (meth := meth) ⟨hxx, hb, hml, hown, hts⟩ (hM l hlt B D cy sx) ⟨px_callB (own := own) (d := d) hts hfr hlo hy hl hdd, hts _ hst⟩ ⟨px_P.blind, hst2⟩ (g := F0 m pc ls ((av.reverse ++ st).map (px_v B sx))) rfl (by rw [List.length_map]) hll.1 hstk (lv_room hcat2) hd ⟨by omega, by omega⟩
  refine px_callX hrun hS (fun E ce q sh' M' L' R' n' H1 locs1 hp hw hz hs1 q1 q2 q3 => ?_) (fun v sh' M' L' R' n' H1 locs1 hp hw hz hs1 => ?_)
  · exact vx_out (fun x hx9 => by rw [htb2] at hx9; cases hx9) hlocks q1 q2 q3 (fun t ht _ => ⟨sh', M', L', R', n', hx E sh' M' L' R' n' hp, by rw [ht]; exact hw, by rw [ht]; exact hz, hs1.F ht⟩) hs1.2.2 hmc hms
  · have h3 := h2 v sh' M' L' R' n' hp H1 locs1 hw hz hs1 hll
    rw [List.map_append] at h3
    cases v <;> exact h3
/-- what a handler of the law's own methods does: keep the exception, answer v -/
def px_hd (cc : ByteArray) (mL hpc : Nat) (v : Int32) : Prop := (∃ (k : Fin 4) (j : Int), decode cc hpc = .ok (.astore_n k, 1) ∧ (k : Nat) < mL ∧ decode cc (hpc + 1) = .ok (.iconst j, 1) ∧ Int32.ofInt j = v ∧ decode cc (hpc + 1 + 1) = .ok (.ireturn, 1)) ∨ (∃ (k : Nat) (j : Int), decode cc hpc = .ok (.astore k, 2) ∧ k < mL ∧ decode cc (hpc + 2) = .ok (.iconst j, 1) ∧ Int32.ofInt j = v ∧ decode cc (hpc + 2 + 1) = .ok (.ireturn, 1))
/-- E is caught: by which row, with what answer -/
def px_caught (own : String) (cc : ByteArray) (mL pc : Nat) (hh : List (Nat × Nat × Nat × Nat)) (E : String) (v : Int32) : Prop := ∃ (pre : List ExceptionTableEntry) (x : ExceptionTableEntry) (suf : List ExceptionTableEntry), tableOf hh = pre ++ x :: suf ∧ (∀ z ∈ pre, z.catchType ≠ 0 ∧ ∃ nm ∈ px_xs, nm ≠ E ∧ Cond.classLink own z.catchType nm ∈ px_G) ∧ E ∈ px_xs ∧ covers x pc = true ∧ x.catchType ≠ 0 ∧ Cond.classLink own x.catchType E ∈ px_G ∧ Cond.castable E E ∈ px_NW ∧ px_hd cc mL x.handlerPc v
/-- the law's own method calls one that may throw, and catches -/
theorem wx_tryV {idx a kd ln : Nat} {y : MethodName} {c2 : ByteArray} {n0 : String} {hh : List (Nat × Nat × Nat × Nat)} {mL2 d2 mc2 ms2 : Nat} {rt2 : Option FieldType} {av st0 : List Value} (hd : decode cc pc = .ok (.invokevirtual idx, 3)) (hl : Cond.methodLink own idx y ∈ px_G) (hy : px_my y c2 mL2 rt2 av.length) (hst : Cond.instanceMethod y ∈ px_G ∧ Cond.selects (px_RC kd) y y ∈ px_G) (hs : sh a = some (kd, ln)) (h13 : kd < 13)
    (hM : MXT y c2 mL2 rt2 d2 mc2 ms2 X (.ref a :: av) sh M L R n Post2 PX2) (h0 : st0 = av.reverse ++ .ref a :: st) (hdd : d2 + 1 ≤ d) (hcat : (st.map fun v => v.category).sum ≤ 8) (hmc : cu + mc2 ≤ mc) (hms : su + ms2 ≤ ms)
    (hx : ∀ E sh' M' L' R' n', PX2 E sh' M' L' R' n' → ∃ v, px_caught own cc mL pc hh E v ∧ Post (some (.int v)) sh' M' L' R' n')
    (h : ∀ v sh' M' L' R' n', Post2 v sh' M' L' R' n' → WX own cc mL (some .int) (n0, hh) d mc ms X (px_QF Post mc ms) (pc + 3) lv (v.toList ++ st) sh' M' L' R' n' (cu + mc2) (su + ms2)) : WX own cc mL (some .int) (n0, hh) d mc ms X (px_QF Post mc ms) pc lv st0 sh M L R n cu su := by
  intro p l e Rm s m args below meth c B D cy sx H locs ls hC hW hn hS hll
  subst h0
  have hst2 := px_start hC hW hn hS (.ref a :: av)
  have h2 := fun v sh' M' L' R' n' hp H1 locs1 => h v sh' M' L' R' n' hp p l e Rm s m args below meth c B D cy sx H1 locs1 ls hC
  obtain ⟨hxx, hb, hml, hr, hown, hts, hlocks, hK, hE, ⟨-, htb⟩, hlt, -, hfr, hlo, hce, hsl⟩ := hC
  have htb2 : c.exceptionTable.toList = tableOf hh := htb
  have hcat2 : ((st.map (px_v B sx)).map fun v => v.category).sum ≤ 8 := by
    rw [List.map_map]
    have e9 : (fun v => Value.category v) ∘ px_v B sx = fun v => v.category := funext fun v => px_v_cat B sx v
    rw [e9]
    exact hcat
  have hstk : (F0 m pc ls ((av.reverse ++ .ref a :: st).map (px_v B sx))).stack = (av.map (px_v B sx)).reverse ++ .ref (B + a) :: st.map (px_v B sx) := by
    show (av.reverse ++ .ref a :: st).map (px_v B sx) = _
    rw [List.map_append, List.map_reverse]
    rfl
  have hrun := vx_runV (rest := st.map (px_v B sx)) (locs := locs) (cells := cu) (slots := su) (e := e) (below := below) (meth := meth) ⟨hxx, hb, hml, hown, hts⟩ (hM l hlt B D cy sx) ⟨px_callB (own := own) (d := d) hts hfr hlo hy hl hdd, hts _ hst.1, hts _ hst.2⟩ ⟨px_P.blind, px_recv hK hW hs h13, hst2⟩ (g := F0 m pc ls ((av.reverse ++ .ref a :: st).map (px_v B sx))) rfl (by rw [List.length_map]) hll.1 hstk (lv_room hcat2) hd ⟨by omega, by omega⟩
  refine px_callX hrun hS (fun E ce q sh' M' L' R' n' H1 locs1 hp hw hz hs1 q1 q2 q3 => ?_) (fun v sh' M' L' R' n' H1 locs1 hp hw hz hs1 => ?_)
  · obtain ⟨v, ⟨pre, x, suf, t1, t2, t3, t4, t5, t6, t7, t8⟩, hpost⟩ := hx E sh' M' L' R' n' hp
    refine vx_catch hown pre x suf (htb2.trans t1) (fun z hz9 => Or.inr ⟨(t2 z hz9).1, ?_⟩) t4 t5 (hts _ t6) (va_Nw.use rfl (hE.1.1 _ t7)) q1 q2 q3 ?_
    · obtain ⟨nm, hnm, hne, hlk⟩ := (t2 z hz9).2
      exact ⟨nm, hts _ hlk, hE.1.2.2 E t3 nm hnm (Ne.symm hne)⟩
    · have hfin : ∀ (t : State), t.heap = H1 → s.WarmedH t.vm → px_Q Post B D cy sx args s (.returned (some (.int v))) t := fun t ht _ => ⟨⟨some (.int v), sh', M', L', R', n', rfl, hpost, by rw [ht]; exact hw, by rw [ht]; exact hz⟩, hs1.F ht⟩
      rcases t8 with ⟨k, j, e1, e2, e3, e4, e5⟩ | ⟨k, j, e1, e2, e3, e4, e5⟩
      · refine lv_astore_n hxx hb e1 rfl (hll : lv_has ls mL _) e2 rfl (fun ls' hl' => ?_)
        refine lv_iconst hxx hb e3 e4 ?_
        refine W.widen hmc hms ?_
        exact W.iret hxx hb hr hfin hs1.2.2 e5 hlocks
      · refine lv_astore hxx hb e1 (hll : lv_has ls mL _) e2 rfl (fun ls' hl' => ?_)
        refine lv_iconst hxx hb e3 e4 ?_
        refine W.widen hmc hms ?_
        exact W.iret hxx hb hr hfin hs1.2.2 e5 hlocks
  · have h3 := h2 v sh' M' L' R' n' hp H1 locs1 hw hz hs1 hll
    rw [List.map_append] at h3
    cases v <;> exact h3
/-- the law calls one of its own methods -/
theorem wx_callW {idx : Nat} {y : MethodName} {c2 : ByteArray} {hh : List (Nat × Nat × Nat × Nat)} {mL2 d2 mc2 ms2 : Nat} {rt2 : Option FieldType} {av st0 : List Value} (hd : decode cc pc = .ok (.invokestatic idx, 3)) (hl : Cond.methodLink own idx y ∈ px_G) (hy : px_mw y c2 mL2 rt2 hh av.length)
    (hM : MXW y c2 mL2 rt2 hh d2 mc2 ms2 X av sh M L R n Post) (h0 : st0 = av.reverse ++ st) (hdd : d2 + 1 ≤ d) (hcat : (st.map fun v => v.category).sum ≤ 8) (hmc : cu + mc2 ≤ mc) (hms : su + ms2 ≤ ms)
    (h : ∀ v sh' M' L' R' n', Post v sh' M' L' R' n' → WX own cc mL rt nm d mc ms X QF (pc + 3) lv (v.toList ++ st) sh' M' L' R' n' (cu + mc2) (su + ms2)) : WX own cc mL rt nm d mc ms X QF pc lv st0 sh M L R n cu su := by
  intro p l e Rm s m args below meth c B D cy sx H locs ls hC hW hn hS hll
  subst h0
  have hst2 := px_start hC hW hn hS av
  have h2 := fun v sh' M' L' R' n' hp H1 locs1 => h v sh' M' L' R' n' hp p l e Rm s m args below meth c B D cy sx H1 locs1 ls hC
  obtain ⟨hx, hb, hml, -, hown, hts, -, hK, hE, -, hlt, -, hfr, hlo, hce, hsl⟩ := hC
  have hcat2 : ((st.map (px_v B sx)).map fun v => v.category).sum ≤ 8 := by
    rw [List.map_map]
    have e9 : (fun v => Value.category v) ∘ px_v B sx = fun v => v.category := funext fun v => px_v_cat B sx v
    rw [e9]
    exact hcat
  have hstk : (F0 m pc ls ((av.reverse ++ st).map (px_v B sx))).stack = (av.map (px_v B sx)).reverse ++ st.map (px_v B sx) := by
    show (av.reverse ++ st).map (px_v B sx) = _
    rw [List.map_append, List.map_reverse]
  obtain ⟨⟨w1, w2, w3⟩, ⟨w4, w5⟩, w6, w7⟩ := hy
  have hgood : GoodIn px_G (Cond.codeWith y c2 mL2 rt2 hh :: px_G) := fun w hw => by
    have h9 : w ∈ px_G := (List.mem_cons.mp hw).elim (fun e => by rw [e]; exact w1) id
    exact ⟨h9, good_of_word (List.mem_filter.mp h9).2⟩
  have hf1 : d2 + 1 ≤ Rm.frames := by omega
  have hf2 : 8 + (mL2 + 11) + 64 * d2 ≤ Rm.locals := by omega
  have hf3 : cu + mc2 ≤ Rm.cells := by omega
  have hf4 : su + ms2 ≤ Rm.slots := by omega
  have hrun := vx_runSW (hh := hh) (bytes := c2) (maxL := mL2) (ret := rt2) (rm := { frames := d2, cells := mc2, slots := ms2, locals := 64 * d2 }) (rest := st.map (px_v B sx)) (locs := locs) (cells := cu) (slots := su) (e := e) (below := below) (meth := meth) ⟨hx, hb, hml, hown, hts⟩ (hM l hlt B D cy sx)
    ⟨⟨rfl, rfl, hf1, hf2, pay_in hts hgood, List.mem_cons_self⟩, hts _ w1, hts _ w2, ⟨w4, w5⟩, fun sig hsig => by rw [hsig] at w6; exact (Option.some.inj w6).symm, hts _ hl, hts _ w3⟩ ⟨px_P.blind, hst2⟩ (g := F0 m pc ls ((av.reverse ++ st).map (px_v B sx))) rfl (by rw [List.length_map]) hll.1 hstk (lv_room hcat2) hd ⟨hf3, hf4⟩
  refine px_call hrun hS (fun v sh' M' L' R' n' H1 locs1 hp hw hz hs1 => ?_)
  have h3 := h2 v sh' M' L' R' n' hp H1 locs1 hw hz hs1 hll
  rw [List.map_append] at h3
  cases v <;> exact h3
end PXT
