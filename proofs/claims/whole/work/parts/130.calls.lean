/-! contracts and calls -/
abbrev px_Post : Type := Option Value → px_Sh → px_M → px_L → px_R → Nat → Prop
def px_Q (Post : px_Post) (B : Nat) (D : va_G) (cy : Nat → ClassId) (sx : Nat → Nat) : Array Value → State → Outcome → State → Prop := fun _ st o t =>
  (∃ (v : Option Value) (sh : px_Sh) (M : px_M) (L : px_L) (R : px_R) (n : Nat), o = .returned (v.map (px_v B sx)) ∧ Post v sh M L R n ∧ px_W D cy B sh M L R t.heap ∧ t.heap.size = B + n) ∧ va_F (px_A B) st t
def px_P (av : List Value) (sh : px_Sh) (M : px_M) (L : px_L) (R : px_R) (n : Nat) (X : Nat × (Nat → Int32)) (B : Nat) (D : va_G) (cy : Nat → ClassId) (sx : Nat → Nat) : Array Value → State → Prop :=
  va_Pc (av.map (px_v B sx)) (fun U => (px_W D cy B sh M L R U.heap ∧ U.heap.size = B + n) ∧ px_K D cy U ∧ px_E B sx X U U.heap)
/-- the contract of a method that returns -/
def MX (y : MethodName) (cc : ByteArray) (mL : Nat) (rt : Option FieldType) (d mc ms : Nat) (X : Nat × (Nat → Int32)) (av : List Value) (sh : px_Sh) (M : px_M) (L : px_L) (R : px_R) (n : Nat) (Post : px_Post) : Prop :=
  ∀ l : Launch, l.stackTraces = false → ∀ (B : Nat) (D : va_G) (cy : Nat → ClassId) (sx : Nat → Nat), Met l y (.code y cc mL rt :: px_G) { frames := d, cells := mc, slots := ms, locals := 64 * d } (px_P av sh M L R n X B D cy sx) (px_Q Post B D cy sx) mc ms (px_A B)
def px_QF (Post : px_Post) (mc ms : Nat) : px_F := fun _ below args s B D cy sx => MQ below (px_Q Post B D cy sx) args s mc ms (px_A B)
theorem px_P.blind {av : List Value} {sh : px_Sh} {M : px_M} {L : px_L} {R : px_R} {n : Nat} {X : Nat × (Nat → Int32)} {B : Nat} {D : va_G} {cy : Nat → ClassId} {sx : Nat → Nat} : FrameBlind (px_P av sh M L R n X B D cy sx) := by
  intro a U g mk h
  obtain ⟨h1, h2, h3, h4⟩ := h
  exact ⟨h1, h2, px_K.moved (u := U) (U := U.calling g mk a) (Vm.Alike.refl U.vm) h3, px_E.same (u := U) (U := U.calling g mk a) rfl h4⟩
theorem px_args {B : Nat} {sx : Nat → Nat} : ∀ (i : Nat) (av : List Value), lv_args i (av.map (px_v B sx)) = (lv_args i av).map (px_q B sx)
  | _, [] => rfl
  | i, v :: av => by
    show (i, px_v B sx v) :: lv_args _ (av.map (px_v B sx)) = px_q B sx (i, v) :: (lv_args _ av).map (px_q B sx)
    rw [px_args, px_v_cat]
    rfl
theorem px_sl {B : Nat} {sx : Nat → Nat} : ∀ (av : List Value), (lg_sl (av.map (px_v B sx))).length = (lg_sl av).length
  | [] => rfl
  | v :: av => by
    have ih := px_sl (B := B) (sx := sx) av
    unfold lg_sl at ih ⊢
    rw [List.map_cons, List.flatMap_cons, List.flatMap_cons, List.length_append, List.length_append, ih, px_v_cat]
    split <;> rfl
theorem MX.of {y : MethodName} {cc : ByteArray} {mL : Nat} {rt : Option FieldType} {d mc ms : Nat} {X : Nat × (Nat → Int32)} {av : List Value} {sh : px_Sh} {M : px_M} {L : px_L} {R : px_R} {n : Nat} {Post : px_Post} (hy : plainFor y = true) (hav : (lg_sl av).length ≤ mL)
    (h : WX y.cls cc mL rt (y.name, []) d mc ms X (px_QF Post mc ms) 0 (lv_args 0 av) [] sh M L R n 0 0) : MX y cc mL rt d mc ms X av sh M L R n Post := by
  intro l hst B D cy sx
  refine MetFree.of_bodySF (code := cc) (maxLocals := mL) (ret := rt) hy ?_ ?_
  · intro args s m h hn
    obtain ⟨meth, c, h1, h2, h3, h4, h5, h6, -, -⟩ := Cond.code_spec hn (atoms_spec (ws := Cond.code y cc mL rt :: px_G) h _ List.mem_cons_self)
    exact ⟨meth, c, h1, h2, h3, h4, h5, h6⟩
  · intro p e s m args below meth c s₁ Bd hml hv _
    have hh0 : s₁.heap = s.heap := by rw [Bd.state]; rfl
    obtain ⟨rfl, ⟨hW, hn⟩, hK, hE⟩ := hv
    have hts := atoms_spec (ws := Cond.code y cc mL rt :: px_G) Bd.pre
    have hown : s.vm.findClass y.cls = some m.cls := findClass_of_methodNamed Bd.named
    have hl := lv_entry (av.map (px_v B sx)) (n := mL) (by rw [px_sl]; exact hav)
    rw [px_args] at hl
    have htb : c.exceptionTable.toList = [] := by
      obtain ⟨meth9, c9, h1, h2, -, -, -, -, h7, -⟩ := Cond.code_spec Bd.named (hts _ List.mem_cons_self)
      cases Option.some.inj (h1.symm.trans Bd.method)
      cases Option.some.inj (h2.symm.trans (Stand.of_body Bd).code)
      rw [Array.isEmpty_iff.mp h7]
    have K := h p l e { frames := d, cells := mc, slots := ms, locals := 64 * d } s m _ below meth c B D cy sx s.heap [] _ ⟨Bd.exec, Bd.bytes, hml, Bd.returns, hown, fun w hw => hts w (List.mem_cons_of_mem _ hw), Bd.notSynchronized, hK, hE, ⟨(name_of_methodNamed Bd.named Bd.method).1, htb⟩, hst, by omega, Nat.le_refl _, Nat.le_refl _, Nat.le_refl _, Nat.le_refl _⟩ hW hn va_S.rf hl
    rw [show (([] : List Value).map (px_v B sx)) = [] from rfl, ← lg_entry_eq] at K
    obtain ⟨t, a1, o, b1, b2, b3⟩ := K s₁ hh0 (Stand.of_body Bd)
    exact ⟨t, o, a1, b1, b2, ⟨b3.1, b3.2⟩⟩
section PXE
variable {own : String} {cc : ByteArray} {mL : Nat} {rt : Option FieldType} {nm : String × List (Nat × Nat × Nat × Nat)} {d mc ms : Nat} {X : Nat × (Nat → Int32)} {QF : px_F} {Post : px_Post} {pc : Nat} {lv lv' : List (Nat × Value)} {st : List Value} {sh : px_Sh} {M M' : px_M} {L L' : px_L} {R R' : px_R} {n cu su : Nat}
theorem wx_iret {x : Int32} (hd : decode cc pc = .ok (.ireturn, 1)) (hc : cu ≤ mc) (hs : su ≤ ms) (hp : Post (some (.int x)) sh M L R n) : WX own cc mL (some .int) nm d mc ms X (px_QF Post mc ms) pc lv [.int x] sh M L R n cu su := by
  intro p l e Rm s m args below meth c B D cy sx H locs ls hC hW hn hS hl
  obtain ⟨hx, hb, -, hr, -, -, hlocks, -⟩ := hC
  refine W.widen hc hs ?_
  exact W.iret hx hb hr (fun t ht hWm => ⟨⟨some (.int x), sh, M, L, R, n, rfl, hp, by rw [ht]; exact hW, by rw [ht]; exact hn⟩, hS.F ht⟩) hS.2.2 hd hlocks
theorem wx_zret {x : Int32} (hd : decode cc pc = .ok (.ireturn, 1)) (hn0 : narrow .boolean (.int x) = .int x) (hc : cu ≤ mc) (hs : su ≤ ms) (hp : Post (some (.int x)) sh M L R n) : WX own cc mL (some .boolean) nm d mc ms X (px_QF Post mc ms) pc lv [.int x] sh M L R n cu su := by
  intro p l e Rm s m args below meth c B D cy sx H locs ls hC hW hn hS hl
  obtain ⟨hx, hb, -, hr, -, -, hlocks, -⟩ := hC
  refine W.widen hc hs ?_
  exact W.zret hx hb hr hn0 (fun t ht hWm => ⟨⟨some (.int x), sh, M, L, R, n, rfl, hp, by rw [ht]; exact hW, by rw [ht]; exact hn⟩, hS.F ht⟩) hS.2.2 hd hlocks
theorem wx_lret {x : Int64} (hd : decode cc pc = .ok (.lreturn, 1)) (hc : cu ≤ mc) (hs : su ≤ ms) (hp : Post (some (.long x)) sh M L R n) : WX own cc mL (some .long) nm d mc ms X (px_QF Post mc ms) pc lv [.long x] sh M L R n cu su := by
  intro p l e Rm s m args below meth c B D cy sx H locs ls hC hW hn hS hl
  obtain ⟨hx, hb, -, hr, -, -, hlocks, -⟩ := hC
  refine W.widen hc hs ?_
  exact W.lret hx hb hr (fun t ht hWm => ⟨⟨some (.long x), sh, M, L, R, n, rfl, hp, by rw [ht]; exact hW, by rw [ht]; exact hn⟩, hS.F ht⟩) hS.2.2 hd hlocks
theorem wx_vret (hd : decode cc pc = .ok (.return_, 1)) (hc : cu ≤ mc) (hs : su ≤ ms) (hp : Post none sh M L R n) : WX own cc mL none nm d mc ms X (px_QF Post mc ms) pc lv [] sh M L R n cu su := by
  intro p l e Rm s m args below meth c B D cy sx H locs ls hC hW hn hS hl
  obtain ⟨hx, hb, -, hr, -, -, hlocks, -⟩ := hC
  refine W.widen hc hs ?_
  exact W.vret hx hb hr (fun t ht hWm => ⟨⟨none, sh, M, L, R, n, rfl, hp, by rw [ht]; exact hW, by rw [ht]; exact hn⟩, hS.F ht⟩) hS.2.2 hd hlocks
theorem wx_aret {a : Nat} {C : String} (hd : decode cc pc = .ok (.areturn, 1)) (hc : cu ≤ mc) (hs : su ≤ ms) (hp : Post (some (.ref a)) sh M L R n) : WX own cc mL (some (.object C)) nm d mc ms X (px_QF Post mc ms) pc lv [.ref a] sh M L R n cu su := by
  intro p l e Rm s m args below meth c B D cy sx H locs ls hC hW hn hS hl
  obtain ⟨hx, hb, -, hr, -, -, hlocks, -⟩ := hC
  refine W.widen hc hs ?_
  exact W.aret (v := .ref (B + a)) hx hb hr (Or.inl ⟨C, rfl⟩) (Or.inr ⟨_, rfl⟩) (fun t ht hWm => ⟨⟨some (.ref a), sh, M, L, R, n, rfl, hp, by rw [ht]; exact hW, by rw [ht]; exact hn⟩, hS.F ht⟩) hS.2.2 hd hlocks
/-- behind a call -/
theorem px_call {p : Program} {l : Launch} {e : Env} {Rm : Room} {s : State} {m : MethodId} {args : Array Value} {below : List Frame} {meth : Method} {c : Code} {B : Nat} {D : va_G} {cy : Nat → ClassId} {sx : Nat → Nat} {H : Heap} {locs : List Loc} {mc2 ms2 : Nat} {ls : Array Slot} {st0 rest : List Value} {a : Array Value} {Q : State → Prop}
    (hr : va_Run p l e Rm s m args below meth c H locs cu su mc2 ms2 (F0 m pc ls st0) rest (px_Q Post B D cy sx a) (px_A B)) (hS : va_S (px_A B) s.heap H locs)
    (kk : ∀ (v : Option Value) (sh' : px_Sh) (M' : px_M) (L' : px_L) (R' : px_R) (n' : Nat) (H1 : Heap) (locs1 : List Loc), Post v sh' M' L' R' n' → px_W D cy B sh' M' L' R' H1 → H1.size = B + n' → va_S (px_A B) s.heap H1 locs1 → W p l e Rm s m args below meth c H1 locs1 (cu + mc2) (su + ms2) Q (F0 m (pc + 3) ls ((v.map (px_v B sx)).toList ++ rest))) :
    W p l e Rm s m args below meth c H locs cu su Q (F0 m pc ls st0) := by
  intro T hT XX
  obtain ⟨v, st₀, t, T', Lc, h0, X', hL, e1, e2, ⟨⟨w, sh', M', L', R', n', hv, hp, hw, hz⟩, hF⟩, stp⟩ := hr T hT XX
  cases hv
  obtain ⟨hF1, hF2⟩ := hF
  rw [h0] at hF1 hF2
  obtain ⟨t2, a1, b1⟩ := kk w sh' M' L' R' n' T'.heap (locs ++ Lc) hp (by rw [e1]; exact hw) (by rw [e1]; exact hz) ⟨Nat.le_trans hS.1 (by rw [e1]; exact hF1), fun q h1 h2 => by
      rw [e1, hF2 q (Nat.lt_of_lt_of_le h1 hS.1) h2]
      exact hS.2.1 q h1 h2, fun q hq => by
      rcases List.mem_append.mp hq with h | h
      · exact hS.2.2 q h
      · exact hL q h⟩ T' rfl X'
  exact ⟨t2, stp t2 a1, b1⟩
theorem px_good {y : MethodName} {c2 : ByteArray} {mL2 : Nat} {rt2 : Option FieldType} (h : Cond.code y c2 mL2 rt2 ∈ px_G) : GoodIn px_G (Cond.code y c2 mL2 rt2 :: px_G) := by
  intro w hw
  have h2 : w ∈ px_G := (List.mem_cons.mp hw).elim (fun e => by rw [e]; exact h) id
  exact ⟨h2, good_of_word (List.mem_filter.mp h2).2⟩
theorem px_callB {Rm : Room} {s : State} {args : Array Value} {idx : Nat} {y : MethodName} {c2 : ByteArray} {mL2 k d2 mc2 ms2 : Nat} {rt2 : Option FieldType} (hts : ∀ w ∈ px_G, w.before args s = true) (hf : d ≤ Rm.frames) (hlo : 64 * d ≤ Rm.locals) (hy : px_my y c2 mL2 rt2 k) (hl : Cond.methodLink own idx y ∈ px_G) (hdd : d2 + 1 ≤ d) :
    CallB Rm s args own idx y c2 mL2 rt2 (.code y c2 mL2 rt2 :: px_G) { frames := d2, cells := mc2, slots := ms2, locals := 64 * d2 } mc2 ms2 k :=
  callB_of k hts (px_good hy.1.1) rfl rfl rfl (hts _ hy.1.2) (hts _ hl) ⟨hy.2.1.1, hy.2.1.2, hy.2.2.1⟩ ⟨by show d2 + 1 ≤ _; omega, by have := hy.2.2.2; show 8 + (mL2 + 11) + 64 * d2 ≤ _; omega⟩
theorem px_callN {Rm : Room} {s : State} {args : Array Value} {idx : Nat} {y : MethodName} {host : String} {c2 : ByteArray} {mL2 k d2 mc2 ms2 : Nat} {rt2 : Option FieldType} (hts : ∀ w ∈ px_G, w.before args s = true) (hf : d ≤ Rm.frames) (hlo : 64 * d ≤ Rm.locals) (hy : px_my y c2 mL2 rt2 k) (hl : va_Nw (.methodLinkNest own idx y host) s) (hdd : d2 + 1 ≤ d) :
    va_CN Rm s args own idx y host c2 mL2 rt2 (.code y c2 mL2 rt2 :: px_G) { frames := d2, cells := mc2, slots := ms2, locals := 64 * d2 } mc2 ms2 k :=
  va_cnB k hts (px_good hy.1.1) rfl rfl rfl hl (hts _ hy.1.2) ⟨hy.2.1.1, hy.2.1.2, hy.2.2.1⟩ ⟨by show d2 + 1 ≤ _; omega, by have := hy.2.2.2; show 8 + (mL2 + 11) + 64 * d2 ≤ _; omega⟩
theorem px_start {p : Program} {l : Launch} {Rm : Room} {s : State} {m : MethodId} {args : Array Value} {meth : Method} {c : Code} {B : Nat} {D : va_G} {cy : Nat → ClassId} {sx : Nat → Nat} {H : Heap} {locs : List Loc} (hC : px_C own cc mL rt nm d mc ms X p l Rm s m args meth c B D cy sx) (hW : px_W D cy B sh M L R H) (hn : H.size = B + n) (hS : va_S (px_A B) s.heap H locs) (av : List Value) :
    ∀ U : State, U.heap = H → s.WarmedH U.vm → px_P av sh M L R n X B D cy sx (av.map (px_v B sx)).toArray U := by
  intro U hU hWm
  obtain ⟨-, -, -, -, -, -, -, hK, hE, -⟩ := hC
  refine ⟨rfl, ⟨by rw [hU]; exact hW, by rw [hU]; exact hn⟩, px_K.moved hWm.alike hK, ?_⟩
  rw [hU]
  exact (hE.kept hS.2.1).warm hWm
theorem wx_callS {idx : Nat} {y : MethodName} {c2 : ByteArray} {mL2 d2 mc2 ms2 : Nat} {rt2 : Option FieldType} {av st0 : List Value} (hd : decode cc pc = .ok (.invokestatic idx, 3)) (hl : px_ml own idx y) (hy : px_my y c2 mL2 rt2 av.length) (hst : Cond.static y ∈ px_G)
    (hM : MX y c2 mL2 rt2 d2 mc2 ms2 X av sh M L R n Post) (h0 : st0 = av.reverse ++ st) (hdd : d2 + 1 ≤ d) (hcat : (st.map fun v => v.category).sum ≤ 8) (hmc : cu + mc2 ≤ mc) (hms : su + ms2 ≤ ms)
    (h : ∀ v sh' M' L' R' n', Post v sh' M' L' R' n' → WX own cc mL rt nm d mc ms X QF (pc + 3) lv (v.toList ++ st) sh' M' L' R' n' (cu + mc2) (su + ms2)) : WX own cc mL rt nm d mc ms X QF pc lv st0 sh M L R n cu su := by
  intro p l e Rm s m args below meth c B D cy sx H locs ls hC hW hn hS hll
  subst h0
  have hst2 := px_start hC hW hn hS av
  have h2 := fun v sh' M' L' R' n' hp H1 locs1 => h v sh' M' L' R' n' hp p l e Rm s m args below meth c B D cy sx H1 locs1 ls hC
  obtain ⟨hx, hb, hml, -, hown, hts, -, hK, hE, -, hlt, -, hfr, hlo, hce, hsl⟩ := hC
  have hcat2 : ((st.map (px_v B sx)).map fun v => v.category).sum ≤ 8 := by
    rw [List.map_map]
    have e9 : (fun v => Value.category v) ∘ px_v B sx = fun v => v.category := funext fun v => px_v_cat B sx v
    rw [e9]
    exact hcat
  have hstk : (F0 m pc ls ((av.reverse ++ st).map (px_v B sx))).stack = (av.map (px_v B sx)).reverse ++ st.map (px_v B sx) := by
    show (av.reverse ++ st).map (px_v B sx) = _
    rw [List.map_append, List.map_reverse]
  have hrun : va_Run p l e Rm s m args below meth c H locs cu su mc2 ms2 (F0 m pc ls ((av.reverse ++ st).map (px_v B sx))) (st.map (px_v B sx)) (px_Q Post B D cy sx (av.map (px_v B sx)).toArray) (px_A B) := by
    rcases hl with hl | ⟨host, hl⟩
    · exact va_runS ⟨hx, hb, hml, hown, hts⟩ (hM l hlt B D cy sx) ⟨px_callB hts hfr hlo hy hl hdd, hts _ hst⟩ ⟨px_P.blind, hst2⟩ rfl (by rw [List.length_map]) hll.1 hstk (lv_room hcat2) hd ⟨by omega, by omega⟩
    · exact va_runSN ⟨hx, hb, hml, hown, hts⟩ (hM l hlt B D cy sx) ⟨px_callN hts hfr hlo hy (hE.1.1 _ hl) hdd, hts _ hst, trivial⟩ ⟨px_P.blind, hst2⟩ rfl (by rw [List.length_map]) hll.1 hstk (lv_room hcat2) hd ⟨by omega, by omega⟩
  refine px_call hrun hS (fun v sh' M' L' R' n' H1 locs1 hp hw hz hs1 => ?_)
  have h3 := h2 v sh' M' L' R' n' hp H1 locs1 hw hz hs1 hll
  rw [List.map_append] at h3
  cases v <;> exact h3
theorem px_recv {s : State} {B : Nat} {D : va_G} {cy : Nat → ClassId} {H : Heap} {a kd ln : Nat} (hK : px_K D cy s) (hW : px_W D cy B sh M L R H) (hs : sh a = some (kd, ln)) (h13 : kd < 13) : ∃ cell : Cell, H[B + a]? = some cell ∧ cell.vm.isStatics = false ∧ s.vm.findClass (px_RC kd) = some cell.cls := by
  obtain ⟨cell, q1, q2, q3, -⟩ := (hW a _ hs).1 h13
  exact ⟨cell, q1, by rw [q3]; rfl, by rw [q2]; exact (hK.1.1 kd _ (px_cl kd h13)).2.1⟩
theorem wx_callV {idx a kd ln : Nat} {y : MethodName} {c2 : ByteArray} {mL2 d2 mc2 ms2 : Nat} {rt2 : Option FieldType} {av st0 : List Value} (hd : decode cc pc = .ok (.invokevirtual idx, 3)) (hl : px_ml own idx y) (hy : px_my y c2 mL2 rt2 av.length) (hst : Cond.instanceMethod y ∈ px_G ∧ Cond.selects (px_RC kd) y y ∈ px_G) (hs : sh a = some (kd, ln)) (h13 : kd < 13)
    (hM : MX y c2 mL2 rt2 d2 mc2 ms2 X (.ref a :: av) sh M L R n Post) (h0 : st0 = av.reverse ++ .ref a :: st) (hdd : d2 + 1 ≤ d) (hcat : (st.map fun v => v.category).sum ≤ 8) (hmc : cu + mc2 ≤ mc) (hms : su + ms2 ≤ ms)
    (h : ∀ v sh' M' L' R' n', Post v sh' M' L' R' n' → WX own cc mL rt nm d mc ms X QF (pc + 3) lv (v.toList ++ st) sh' M' L' R' n' (cu + mc2) (su + ms2)) : WX own cc mL rt nm d mc ms X QF pc lv st0 sh M L R n cu su := by
  intro p l e Rm s m args below meth c B D cy sx H locs ls hC hW hn hS hll
  subst h0
  have hst2 := px_start hC hW hn hS (.ref a :: av)
  have h2 := fun v sh' M' L' R' n' hp H1 locs1 => h v sh' M' L' R' n' hp p l e Rm s m args below meth c B D cy sx H1 locs1 ls hC
  obtain ⟨hx, hb, hml, -, hown, hts, -, hK, hE, -, hlt, -, hfr, hlo, hce, hsl⟩ := hC
  have hcat2 : ((st.map (px_v B sx)).map fun v => v.category).sum ≤ 8 := by
    rw [List.map_map]
    have e9 : (fun v => Value.category v) ∘ px_v B sx = fun v => v.category := funext fun v => px_v_cat B sx v
    rw [e9]
    exact hcat
  have hstk : (F0 m pc ls ((av.reverse ++ .ref a :: st).map (px_v B sx))).stack = (av.map (px_v B sx)).reverse ++ .ref (B + a) :: st.map (px_v B sx) := by
    show (av.reverse ++ .ref a :: st).map (px_v B sx) = _
    rw [List.map_append, List.map_reverse]
    rfl
  have hrun : va_Run p l e Rm s m args below meth c H locs cu su mc2 ms2 (F0 m pc ls ((av.reverse ++ .ref a :: st).map (px_v B sx))) (st.map (px_v B sx)) (px_Q Post B D cy sx (Value.ref (B + a) :: av.map (px_v B sx)).toArray) (px_A B) := by
    rcases hl with hl | ⟨host, hl⟩
    · exact va_runV ⟨hx, hb, hml, hown, hts⟩ (hM l hlt B D cy sx) ⟨px_callB hts hfr hlo hy hl hdd, hts _ hst.1, hts _ hst.2⟩ ⟨px_P.blind, px_recv hK hW hs h13, hst2⟩ rfl (by rw [List.length_map]) hll.1 hstk (lv_room hcat2) hd ⟨by omega, by omega⟩
    · exact va_runVN ⟨hx, hb, hml, hown, hts⟩ (hM l hlt B D cy sx) ⟨px_callN hts hfr hlo hy (hE.1.1 _ hl) hdd, hts _ hst.1, hts _ hst.2⟩ ⟨px_P.blind, px_recv hK hW hs h13, hst2⟩ rfl (by rw [List.length_map]) hll.1 hstk (lv_room hcat2) hd ⟨by omega, by omega⟩
  refine px_call hrun hS (fun v sh' M' L' R' n' H1 locs1 hp hw hz hs1 => ?_)
  have h3 := h2 v sh' M' L' R' n' hp H1 locs1 hw hz hs1 hll
  rw [List.map_append] at h3
  cases v <;> exact h3
theorem wx_callI {idx a : Nat} {y : MethodName} {c2 : ByteArray} {mL2 d2 mc2 ms2 : Nat} {av st0 : List Value} (hd : decode cc pc = .ok (.invokespecial idx, 3)) (hl : px_ml own idx y) (hy : px_my y c2 mL2 none av.length) (hst : Cond.instanceMethod y ∈ px_G ∧ y.name = "<init>")
    (hM : MX y c2 mL2 none d2 mc2 ms2 X (.ref a :: av) sh M L R n Post) (h0 : st0 = av.reverse ++ .ref a :: st) (hdd : d2 + 1 ≤ d) (hcat : (st.map fun v => v.category).sum ≤ 8) (hmc : cu + mc2 ≤ mc) (hms : su + ms2 ≤ ms)
    (h : ∀ v sh' M' L' R' n', Post v sh' M' L' R' n' → WX own cc mL rt nm d mc ms X QF (pc + 3) lv (v.toList ++ st) sh' M' L' R' n' (cu + mc2) (su + ms2)) : WX own cc mL rt nm d mc ms X QF pc lv st0 sh M L R n cu su := by
  intro p l e Rm s m args below meth c B D cy sx H locs ls hC hW hn hS hll
  subst h0
  have hst2 := px_start hC hW hn hS (.ref a :: av)
  have h2 := fun v sh' M' L' R' n' hp H1 locs1 => h v sh' M' L' R' n' hp p l e Rm s m args below meth c B D cy sx H1 locs1 ls hC
  obtain ⟨hx, hb, hml, -, hown, hts, -, hK, hE, -, hlt, -, hfr, hlo, hce, hsl⟩ := hC
  have hcat2 : ((st.map (px_v B sx)).map fun v => v.category).sum ≤ 8 := by
    rw [List.map_map]
    have e9 : (fun v => Value.category v) ∘ px_v B sx = fun v => v.category := funext fun v => px_v_cat B sx v
    rw [e9]
    exact hcat
  have hstk : (F0 m pc ls ((av.reverse ++ .ref a :: st).map (px_v B sx))).stack = (av.map (px_v B sx)).reverse ++ .ref (B + a) :: st.map (px_v B sx) := by
    show (av.reverse ++ .ref a :: st).map (px_v B sx) = _
    rw [List.map_append, List.map_reverse]
    rfl
  have hrun : va_Run p l e Rm s m args below meth c H locs cu su mc2 ms2 (F0 m pc ls ((av.reverse ++ .ref a :: st).map (px_v B sx))) (st.map (px_v B sx)) (px_Q Post B D cy sx (Value.ref (B + a) :: av.map (px_v B sx)).toArray) (px_A B) := by
    rcases hl with hl | ⟨host, hl⟩
    · exact va_runI ⟨hx, hb, hml, hown, hts⟩ (hM l hlt B D cy sx) ⟨px_callB hts hfr hlo hy hl hdd, hst.2, hts _ hst.1⟩ ⟨px_P.blind, hst2⟩ rfl (by rw [List.length_map]) hll.1 hstk (lv_room hcat2) hd ⟨by omega, by omega⟩
    · exact va_runIN ⟨hx, hb, hml, hown, hts⟩ (hM l hlt B D cy sx) ⟨px_callN hts hfr hlo hy (hE.1.1 _ hl) hdd, hst.2, hts _ hst.1⟩ ⟨px_P.blind, hst2⟩ rfl (by rw [List.length_map]) hll.1 hstk (lv_room hcat2) hd ⟨by omega, by omega⟩
  refine px_call hrun hS (fun v sh' M' L' R' n' H1 locs1 hp hw hz hs1 => ?_)
  have h3 := h2 v sh' M' L' R' n' hp H1 locs1 hw hz hs1 hll
  rw [List.map_append] at h3
  cases v <;> exact h3
end PXE
