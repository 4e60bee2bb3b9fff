/-! the law's own walk: its end, its arguments, its calls -/
def R_law : String := "LightSailsLaw"
def lw_P (b : Addr) (xs : List Int32) (args : Array Value) (s : State) : Prop := args = #[.ref b] ∧ s.IntsAt b xs ∧ xs.length ≤ 3072 ∧ (Jvm.Cond.and given_1 narrow_1).before args s = true
def lw_Q (_ : Array Value) (s : State) (o : Outcome) (t : State) : Prop := o = .returned (some (.int 1)) ∧ Framed s o t [] 601024 7293034
def lw_Z (below : List Frame) (a : Array Value) (s : State) : State → Prop := fun t => ∃ o, t.status = .running ∧ Ended t below o ∧ lw_Q a s o t
/-- the law's own end, in any room -/
theorem lw_ret {p : Program} {l : Launch} {e : Env} {Rm : Room} {s : State} {m : MethodId} {args : Array Value} {below : List Frame} {meth : Method} {c : Code} (hx : p.tables.exec = Jvm.exec) (hb : c.code = code) (hr : meth.sig.returnType = ret) (hlocks : meth.locks = false) {pc : Nat} {H : Heap} {ls : Array Slot} (hdg : decode code pc = .ok (.ireturn, 1)) : W p l e Rm s m args below meth c H [] 601024 7293034 (lw_Z below args s) (F0 m pc ls [.int 1]) := by
  intro T hT X
  obtain ⟨fs, hret, hrun, hended, hW, hframe⟩ := X.leave (v := some (.int 1)) (hlocks := hlocks) (fun h => by rw [hr] at h; cases h)
  have hmeth' : T.vm.method? m = some meth := X.method'
  refine ⟨T.setFrames fs, ?_, .returned (some (.int 1)), hrun, hended, rfl, ⟨_, rfl⟩, hW, hframe⟩
  jvm_step X.here [X.here.top, hx, hb, hdg, hmeth', hr, ret, narrow_b1]
  (try refine ⟨rfl, ?_⟩); (try refine ⟨rfl, ?_⟩)
  first | (intro acts; rw [hret _ acts rfl rfl rfl]) | rw [hret _ _ rfl rfl rfl]
  exact Steps.refl _
/-- what holds at the law's entry: the machine, the code, the tables' words (any of lw_tbl by 'hts w (by decide +kernel)'), the script of L ints xs at the cell b, what the Statement gives of the start (any of its parts by flat_of_before) -/
def lw_At (p : Program) (s : State) (m : MethodId) (meth : Method) (c : Code) (b L : Nat) (xs : Nat → Int32) : Prop :=
  p.tables.exec = Jvm.exec ∧ c.code = code ∧ meth.sig.returnType = ret ∧ c.maxLocals = 8 ∧ s.vm.findClass R_law = some m.cls ∧ (∀ w ∈ lw_tbl, w.before #[Value.ref b] s = true) ∧ va_X b L xs s s.heap ∧ b < s.heap.size ∧ meth.locks = false ∧ (Jvm.Cond.and given_1 narrow_1).before #[Value.ref b] s = true
def QFL : px_F := fun _ below args s B _ _ _ t => s.heap.size ≤ B → lw_Z below args s t
abbrev LW (X : Nat × (Nat → Int32)) (pc : Nat) (lv : List (Nat × Value)) (st : List Value) (sh : px_Sh) (M : px_M) (L : px_L) (R : px_R) (n cu su : Nat) : Prop := WX RL cL_law 8 (some .boolean) ("law", []) 1000 601024 7293034 X QFL pc lv st sh M L R n cu su
/-- the law's locals at its loop's head -/
abbrev lv0 (i : Nat) : List (Nat × Value) := [(0, .retAddr 10), (1, .ref 0), (2, .ref 73), (3, .ref 219), (4, .int (nI i))]
section LAW
variable {X : Nat × (Nat → Int32)} {pc : Nat} {lv lv' : List (Nat × Value)} {st st0 : List Value} {sh : px_Sh} {M : px_M} {L : px_L} {R : px_R} {n cu su c i : Nat}
theorem wl_end (hd : decode cL_law pc = .ok (.ireturn, 1)) (hc : cu ≤ 601024) (hs : su ≤ 7293034) : LW X pc lv [.int 1] sh M L R n cu su := by
  intro p l e Rm s m args below meth c B D cy sx H locs ls hC hW hn hS hl
  obtain ⟨hx, hb, -, hr, -, -, hlk, -⟩ := hC
  by_cases hB : s.heap.size ≤ B
  · have h1 : W p l e Rm s m args below meth c H locs cu su (lw_Z below args s) (F0 m pc ls [.int 1]) := by
      refine va_forget (fun q hq => Nat.le_trans hB (hS.2.2 q hq)) ?_
      refine W.widen (k := 601024) (n := 7293034) hc hs ?_
      exact lw_ret hx hb hr hlk hd
    intro T hT Y
    obtain ⟨t, a1, a2⟩ := h1 T hT Y
    exact ⟨t, a1, fun _ => a2⟩
  · intro T hT Y
    exact ⟨_, Steps.refl _, fun q => absurd q hB⟩
theorem wl_arg {k : Nat} {j : Int} (h1 : decode cL_law pc = .ok (.aload_n 0, 1)) (h2 : decode cL_law (pc + 1) = .ok (.iload 4, 2)) (h3 : decode cL_law (pc + 1 + 2) = .ok (.iconst j, 1)) (h4 : decode cL_law (pc + 1 + 2 + 1) = .ok (.iadd, 1)) (h5 : decode cL_law (pc + 1 + 2 + 1 + 1) = .ok (.iaload, 1)) (hj : Int32.ofInt j = nI k) (hi : i + k < X.1) (hX : X.1 ≤ 3072) (g0 : px_get lv 0 = some (.retAddr 10)) (g4 : px_get lv 4 = some (.int (nI i)))
    (h : LW X (pc + 1 + 2 + 1 + 1 + 1) lv (.int (X.2 (i + k)) :: st) sh M L R n cu su) : LW X pc lv st sh M L R n cu su := by
  refine wx_xload_n h1 g0 ?_
  refine wx_iload h2 g4 ?_
  refine wx_iconst (v := nI k) h3 hj ?_
  refine wx_iadd h4 ?_
  rw [nI_add]
  refine wx_scr h5 (ix_in (ix_k hi (by omega))) ?_
  rw [nI_clamp (by omega)]
  exact h
/-- what is left of a call behind the wrapper -/
def KM (X : Nat × (Nat → Int32)) (ym : MethodName) (cm : ByteArray) (mm : Nat) (rt : Option FieldType) (avm : List Value) (bv : Option Value → Int64 → Prop) (c : Nat) (k : Int32) (sh : px_Sh) (M : px_M) (L : px_L) (R : px_R) (n cu su : Nat) : Prop :=
  SR sh R ∧ ∃ (m2 s2 : Nat) (P2 : px_Post), (cu + m2 ≤ 601024 ∧ su + s2 ≤ 7293034) ∧ MX ym cm mm rt 100 m2 s2 X avm sh M L R n P2 ∧ ∀ v2 sh2 M2 L2 R2 n2, P2 v2 sh2 M2 L2 R2 n2 → (∃ w, bv v2 w ∧ (k = 0 → L2 219 0 = w)) ∧ M2 73 0 = k ∧ IA (c + 1) sh2 M2 L2 R2 n2 (cu + m2) (su + s2)
theorem IA.room (h : IA c sh M L R n cu su) (hc : c ≤ 512) : cu + 6 ≤ 601024 ∧ su + 42000 ≤ 7293034 := by
  obtain ⟨np, -, b, ⟨nw, nd, wa, ch, ly, d, r, a, ⟨hW, -⟩, -, hb⟩, hs⟩ := h.2.2.1
  have h1 := h.2.2.2.2.2.2.2
  have h2 := chn_le R wa nw
  have h3 := hW.1
  omega
theorem wl_K {yw : MethodName} {cw : ByteArray} {mw : Nat} {hh : List (Nat × Nat × Nat × Nat)} {ym : MethodName} {cm : ByteArray} {mm : Nat} {rt : Option FieldType} {av avm : List Value} {bv : Option Value → Int64 → Prop} {idx : Nat} (hK : KI X yw cw mw hh ym cm mm rt av avm bv c sh M L R n cu su) (hr : cu + 6 ≤ 601024 ∧ su + 42000 ≤ 7293034) (hd : decode cL_law pc = .ok (.invokestatic idx, 3)) (hl : Cond.methodLink RL idx yw ∈ px_G) (hy : px_mw yw cw mw (some .int) hh av.length) (h0 : st0 = av.reverse)
    (h : ∀ k sh1 M1 L1 R1 n1 cu1 su1, KM X ym cm mm rt avm bv c k sh1 M1 L1 R1 n1 cu1 su1 → LW X (pc + 3) lv [.int k] sh1 M1 L1 R1 n1 cu1 su1) : LW X pc lv st0 sh M L R n cu su := by
  obtain ⟨k, m1, s1, P1, hb, hw, hk⟩ := hK
  refine wx_callW (st := []) hd hl hy hw (by rw [List.append_nil]; exact h0) (by omega) (by exact Nat.le_of_ble_eq_true rfl) (by omega) (by omega) ?_
  intro v sh1 M1 L1 R1 n1 q
  obtain ⟨rfl, hS, m2, s2, P2, hb2, hm, hk2⟩ := hk _ _ _ _ _ _ q
  exact h k sh1 M1 L1 R1 n1 _ _ ⟨hS, m2, s2, P2, by omega, hm, hk2⟩
theorem wl_M {ym : MethodName} {cm : ByteArray} {mm : Nat} {rt : Option FieldType} {avl : List Value} {bv : Option Value → Int64 → Prop} {k : Int32} {idx : Nat} (hK : KM X ym cm mm rt (.ref 73 :: avl) bv c k sh M L R n cu su) (hd : decode cL_law pc = .ok (.invokevirtual idx, 3)) (hl : px_ml RL idx ym) (hy : px_my ym cm mm rt avl.length) (hst : Cond.instanceMethod ym ∈ px_G ∧ Cond.selects (px_RC 12) ym ym ∈ px_G) (h0 : st0 = avl.reverse ++ [.ref 73])
    (h : ∀ v w sh2 M2 L2 R2 n2 cu2 su2, bv v w → (k = 0 → L2 219 0 = w) → M2 73 0 = k → IA (c + 1) sh2 M2 L2 R2 n2 cu2 su2 → LW X (pc + 3) lv (v.toList ++ []) sh2 M2 L2 R2 n2 cu2 su2) : LW X pc lv st0 sh M L R n cu su := by
  obtain ⟨hS, m2, s2, P2, hb2, hm, hk2⟩ := hK
  refine wx_callV (st := []) hd hl hy hst (sc_73 hS) (by decide) hm h0 (by omega) (by exact Nat.le_of_ble_eq_true rfl) hb2.1 hb2.2 ?_
  intro v sh2 M2 L2 R2 n2 q
  obtain ⟨⟨w, h1, h2⟩, h3, h4⟩ := hk2 _ _ _ _ _ _ q
  exact h v w sh2 M2 L2 R2 n2 _ _ h1 h2 h3 h4
theorem wl_thr {k : Int32} (hS : SR sh R) (h0 : M 73 0 = k) (hcu : cu ≤ 601024) (hsu : su ≤ 7293034) (d2 : decode cL_law pc = .ok (.aload_n 2, 1)) (d3 : decode cL_law (pc + 1) = .ok (.invokevirtual 156, 3)) (d4 : decode cL_law (pc + 1 + 3) = .ok (.iload 5, 2)) (d5 : decode cL_law (pc + 1 + 3 + 2) = .ok (.if_icmp .eq 5, 3)) (g2 : px_get lv 2 = some (.ref 73)) (g5 : px_get lv 5 = some (.int k)) (h : LW X (pc + 11) lv [] sh M L R n cu su) : LW X pc lv [] sh M L R n cu su := by
  refine wx_aload_n d2 g2 ?_
  refine wx_cVi d3 ml_L_156 my_X12_thrown iv_X12_thrown (sc_73 hS) (by decide) (s_X12_thrown (d := 100) hS (by omega) rfl) rfl (by omega) (by exact Nat.le_of_ble_eq_true rfl) hcu hsu ?_
  refine wx_iload d4 g5 ?_
  refine wx_icmp_eq (tgt := pc + 11) d5 (by omega) (fun _ => h) (fun q => absurd h0 q)
theorem tl_I {v : Option Value} {w : Int64} {k : Int32} {off : Int} (hb : bvI v w) (hl : k = 0 → L 219 0 = w) (h0 : M 73 0 = k) (hI : IA (c + 1) sh M L R n cu su) (hc : c + 1 ≤ 512)
    (d1 : decode cL_law pc = .ok (.istore 6, 2)) (d2 : decode cL_law (pc + 2) = .ok (.aload_n 2, 1)) (d3 : decode cL_law (pc + 2 + 1) = .ok (.invokevirtual 156, 3)) (d4 : decode cL_law (pc + 2 + 1 + 3) = .ok (.iload 5, 2)) (d5 : decode cL_law (pc + 2 + 1 + 3 + 2) = .ok (.if_icmp .eq 5, 3)) (d6 : decode cL_law (pc + 2 + 11) = .ok (.iload 5, 2)) (d7 : decode cL_law (pc + 2 + 11 + 2) = .ok (.ifCond .ne 15, 3)) (d8 : decode cL_law (pc + 2 + 11 + 2 + 3) = .ok (.aload_n 3, 1)) (d9 : decode cL_law (pc + 2 + 11 + 2 + 3 + 1) = .ok (.iconst 0, 1)) (d10 : decode cL_law (pc + 2 + 11 + 2 + 3 + 1 + 1) = .ok (.laload, 1)) (d11 : decode cL_law (pc + 2 + 11 + 2 + 3 + 1 + 1 + 1) = .ok (.iload 6, 2)) (d12 : decode cL_law (pc + 2 + 11 + 2 + 3 + 1 + 1 + 1 + 2) = .ok (.i2l, 1)) (d13 : decode cL_law (pc + 2 + 11 + 2 + 3 + 1 + 1 + 1 + 2 + 1) = .ok (.lcmp, 1)) (d14 : decode cL_law (pc + 2 + 11 + 2 + 3 + 1 + 1 + 1 + 2 + 1 + 1) = .ok (.ifCond .eq 5, 3)) (d15 : decode cL_law (pc + 30) = .ok (.goto off, 3)) (ho : ((pc + 30 : Nat) : Int) + off = 3016)
    (G : LW X 3016 (lv0 i) [] sh M L R n cu su) : LW X pc ((5, .int k) :: lv0 i) (v.toList ++ []) sh M L R n cu su := by
  obtain ⟨b, rfl, rfl⟩ := hb
  have hr := hI.room hc
  have hS := hI.1.1
  have hE : LW X (pc + 30) ((6, .int b) :: (5, .int k) :: lv0 i) [] sh M L R n cu su := wx_goto (tgt := 3016) d15 ho (wx_sub G (px_s rfl (px_s rfl (px_s rfl (px_s rfl (px_s rfl px_0))))))
  show LW X pc ((5, .int k) :: lv0 i) [.int b] sh M L R n cu su
  refine wx_istore (lv' := (6, .int b) :: (5, .int k) :: lv0 i) d1 (by omega) rfl ?_
  refine wl_thr hS h0 (by omega) (by omega) d2 d3 d4 d5 rfl rfl ?_
  refine wx_iload d6 rfl ?_
  refine wx_if_ne (tgt := pc + 30) d7 (by omega) (fun _ => hE) (fun q => ?_)
  refine wx_aload_n d8 rfl ?_
  refine wx_iconst (v := 0) d9 (by decide) ?_
  refine wx_laldk (k := 0) d10 (sc_219 hS) rfl (by omega) (by omega) ?_
  refine wx_iload d11 rfl ?_
  refine wx_i2l d12 ?_
  refine wx_lcmp d13 ?_
  refine wx_if_eq (tgt := pc + 30) d14 (by omega) (fun _ => hE) (fun z => absurd ((lg_cmp_eq _ _).mpr (hl q)) z)
theorem tl_Z {v : Option Value} {w : Int64} {k : Int32} {off : Int} (hb : bvZ v w) (hl : k = 0 → L 219 0 = w) (h0 : M 73 0 = k) (hI : IA (c + 1) sh M L R n cu su) (hc : c + 1 ≤ 512)
    (d1 : decode cL_law pc = .ok (.istore 6, 2)) (d2 : decode cL_law (pc + 2) = .ok (.aload_n 2, 1)) (d3 : decode cL_law (pc + 2 + 1) = .ok (.invokevirtual 156, 3)) (d4 : decode cL_law (pc + 2 + 1 + 3) = .ok (.iload 5, 2)) (d5 : decode cL_law (pc + 2 + 1 + 3 + 2) = .ok (.if_icmp .eq 5, 3)) (d6 : decode cL_law (pc + 2 + 11) = .ok (.iload 5, 2)) (d7 : decode cL_law (pc + 2 + 11 + 2) = .ok (.ifCond .ne 22, 3)) (d8 : decode cL_law (pc + 2 + 11 + 2 + 3) = .ok (.aload_n 3, 1)) (d9 : decode cL_law (pc + 2 + 11 + 2 + 3 + 1) = .ok (.iconst 0, 1)) (d10 : decode cL_law (pc + 2 + 11 + 2 + 3 + 1 + 1) = .ok (.laload, 1)) (d11 : decode cL_law (pc + 2 + 11 + 2 + 3 + 1 + 1 + 1) = .ok (.iload 6, 2)) (d12 : decode cL_law (pc + 2 + 11 + 2 + 3 + 1 + 1 + 1 + 2) = .ok (.ifCond .eq 7, 3)) (d13 : decode cL_law (pc + 2 + 11 + 2 + 3 + 1 + 1 + 1 + 2 + 3) = .ok (.lconst 1, 1)) (d14 : decode cL_law (pc + 2 + 11 + 2 + 3 + 1 + 1 + 1 + 2 + 3 + 1) = .ok (.goto 4, 3)) (d16 : decode cL_law (pc + 30) = .ok (.lconst 0, 1)) (d17 : decode cL_law (pc + 30 + 1) = .ok (.lcmp, 1)) (d18 : decode cL_law (pc + 30 + 1 + 1) = .ok (.ifCond .eq 5, 3)) (d15 : decode cL_law (pc + 37) = .ok (.goto off, 3)) (ho : ((pc + 37 : Nat) : Int) + off = 3016)
    (G : LW X 3016 (lv0 i) [] sh M L R n cu su) : LW X pc ((5, .int k) :: lv0 i) (v.toList ++ []) sh M L R n cu su := by
  obtain ⟨b, rfl, rfl⟩ := hb
  have hr := hI.room hc
  have hS := hI.1.1
  have hE : LW X (pc + 37) ((6, .int b) :: (5, .int k) :: lv0 i) [] sh M L R n cu su := wx_goto (tgt := 3016) d15 ho (wx_sub G (px_s rfl (px_s rfl (px_s rfl (px_s rfl (px_s rfl px_0))))))
  have hC : ∀ z : Int64, L 219 0 = z → LW X (pc + 30 + 1) ((6, .int b) :: (5, .int k) :: lv0 i) [.long z, .long (L 219 0)] sh M L R n cu su := fun z hz => by
    refine wx_lcmp d17 ?_
    refine wx_if_eq (tgt := pc + 37) d18 (by omega) (fun _ => hE) (fun q => absurd ((lg_cmp_eq _ _).mpr hz) q)
  show LW X pc ((5, .int k) :: lv0 i) [.int b] sh M L R n cu su
  refine wx_istore (lv' := (6, .int b) :: (5, .int k) :: lv0 i) d1 (by omega) rfl ?_
  refine wl_thr hS h0 (by omega) (by omega) d2 d3 d4 d5 rfl rfl ?_
  refine wx_iload d6 rfl ?_
  refine wx_if_ne (tgt := pc + 37) d7 (by omega) (fun _ => hE) (fun q => ?_)
  refine wx_aload_n d8 rfl ?_
  refine wx_iconst (v := 0) d9 (by decide) ?_
  refine wx_laldk (k := 0) d10 (sc_219 hS) rfl (by omega) (by omega) ?_
  refine wx_iload d11 rfl ?_
  refine wx_if_eq (tgt := pc + 30) d12 (by omega) (fun z => ?_) (fun z => ?_)
  · refine wx_lconst (v := 0) d16 rfl ?_
    exact hC 0 (by rw [hl q, if_pos z])
  · refine wx_lconst (v := 1) d13 rfl ?_
    refine wx_goto (tgt := pc + 30 + 1) d14 (by omega) ?_
    exact hC 1 (by rw [hl q, if_neg z])
theorem tl_J {v : Option Value} {w : Int64} {k : Int32} {off : Int} (hb : bvJ v w) (hl : k = 0 → L 219 0 = w) (h0 : M 73 0 = k) (hI : IA (c + 1) sh M L R n cu su) (hc : c + 1 ≤ 512)
    (d1 : decode cL_law pc = .ok (.lstore 6, 2)) (d2 : decode cL_law (pc + 2) = .ok (.aload_n 2, 1)) (d3 : decode cL_law (pc + 2 + 1) = .ok (.invokevirtual 156, 3)) (d4 : decode cL_law (pc + 2 + 1 + 3) = .ok (.iload 5, 2)) (d5 : decode cL_law (pc + 2 + 1 + 3 + 2) = .ok (.if_icmp .eq 5, 3)) (d6 : decode cL_law (pc + 2 + 11) = .ok (.iload 5, 2)) (d7 : decode cL_law (pc + 2 + 11 + 2) = .ok (.ifCond .ne 14, 3)) (d8 : decode cL_law (pc + 2 + 11 + 2 + 3) = .ok (.aload_n 3, 1)) (d9 : decode cL_law (pc + 2 + 11 + 2 + 3 + 1) = .ok (.iconst 0, 1)) (d10 : decode cL_law (pc + 2 + 11 + 2 + 3 + 1 + 1) = .ok (.laload, 1)) (d11 : decode cL_law (pc + 2 + 11 + 2 + 3 + 1 + 1 + 1) = .ok (.lload 6, 2)) (d13 : decode cL_law (pc + 2 + 11 + 2 + 3 + 1 + 1 + 1 + 2) = .ok (.lcmp, 1)) (d14 : decode cL_law (pc + 2 + 11 + 2 + 3 + 1 + 1 + 1 + 2 + 1) = .ok (.ifCond .eq 5, 3)) (d15 : decode cL_law (pc + 29) = .ok (.goto off, 3)) (ho : ((pc + 29 : Nat) : Int) + off = 3016)
    (G : LW X 3016 (lv0 i) [] sh M L R n cu su) : LW X pc ((5, .int k) :: lv0 i) (v.toList ++ []) sh M L R n cu su := by
  obtain rfl := hb
  have hr := hI.room hc
  have hS := hI.1.1
  have hE : LW X (pc + 29) ((6, .long w) :: (5, .int k) :: lv0 i) [] sh M L R n cu su := wx_goto (tgt := 3016) d15 ho (wx_sub G (px_s rfl (px_s rfl (px_s rfl (px_s rfl (px_s rfl px_0))))))
  show LW X pc ((5, .int k) :: lv0 i) [.long w] sh M L R n cu su
  refine wx_lstore (lv' := (6, .long w) :: (5, .int k) :: lv0 i) d1 (by omega) rfl ?_
  refine wl_thr hS h0 (by omega) (by omega) d2 d3 d4 d5 rfl rfl ?_
  refine wx_iload d6 rfl ?_
  refine wx_if_ne (tgt := pc + 29) d7 (by omega) (fun _ => hE) (fun q => ?_)
  refine wx_aload_n d8 rfl ?_
  refine wx_iconst (v := 0) d9 (by decide) ?_
  refine wx_laldk (k := 0) d10 (sc_219 hS) rfl (by omega) (by omega) ?_
  refine wx_lload d11 rfl ?_
  refine wx_lcmp d13 ?_
  refine wx_if_eq (tgt := pc + 29) d14 (by omega) (fun _ => hE) (fun z => absurd ((lg_cmp_eq _ _).mpr (hl q)) z)
theorem tl_V {v : Option Value} {w : Int64} {k : Int32} {off : Int} (hb : bvV v w) (h0 : M 73 0 = k) (hI : IA (c + 1) sh M L R n cu su) (hc : c + 1 ≤ 512)
    (d2 : decode cL_law pc = .ok (.aload_n 2, 1)) (d3 : decode cL_law (pc + 1) = .ok (.invokevirtual 156, 3)) (d4 : decode cL_law (pc + 1 + 3) = .ok (.iload 5, 2)) (d5 : decode cL_law (pc + 1 + 3 + 2) = .ok (.if_icmp .eq 5, 3)) (d15 : decode cL_law (pc + 11) = .ok (.goto off, 3)) (ho : ((pc + 11 : Nat) : Int) + off = 3016)
    (G : LW X 3016 (lv0 i) [] sh M L R n cu su) : LW X pc ((5, .int k) :: lv0 i) (v.toList ++ []) sh M L R n cu su := by
  obtain rfl := hb
  have hr := hI.room hc
  have hS := hI.1.1
  show LW X pc ((5, .int k) :: lv0 i) [] sh M L R n cu su
  refine wl_thr hS h0 (by omega) (by omega) d2 d3 d4 d5 rfl rfl ?_
  exact wx_goto (tgt := 3016) d15 ho (wx_sub G (px_s rfl (px_s rfl (px_s rfl (px_s rfl (px_s rfl px_0))))))
/-- calls that cannot throw: the class, then the reference -/
theorem wl_D {yw : MethodName} {cw : ByteArray} {mw : Nat} {rw : Option FieldType} {ym : MethodName} {cm : ByteArray} {mm : Nat} {avl avm : List Value} {idx : Nat} (hK : KD X yw cw mw rw ym cm mm (.ref 0 :: avl) avm c sh M L R n cu su) (hI : IA c sh M L R n cu su) (hr : cu + 6 ≤ 601024 ∧ su + 42000 ≤ 7293034) (hd : decode cL_law pc = .ok (.invokevirtual idx, 3)) (hl : px_ml RL idx yw) (hy : px_my yw cw mw rw avl.length) (hst : Cond.instanceMethod yw ∈ px_G ∧ Cond.selects (px_RC 11) yw yw ∈ px_G) (h0 : st0 = avl.reverse ++ [.ref 0])
    (h : ∀ k sh1 M1 L1 R1 n1 (P2 : px_Post), SR sh1 R1 → MX ym cm mm rw 100 0 0 X avm sh1 M1 L1 R1 n1 P2 → (∀ v2 sh2 M2 L2 R2 n2, P2 v2 sh2 M2 L2 R2 n2 → v2 = some (.int k) ∧ IA (c + 1) sh2 M2 L2 R2 n2 cu su) → LW X (pc + 3) lv [.int k] sh1 M1 L1 R1 n1 cu su) : LW X pc lv st0 sh M L R n cu su := by
  obtain ⟨k, P1, hw, hk⟩ := hK
  refine wx_callV (st := []) hd hl hy hst (sc_0 hI.1.1) (by decide) hw h0 (by omega) (by exact Nat.le_of_ble_eq_true rfl) (by omega) (by omega) ?_
  intro v sh1 M1 L1 R1 n1 q
  obtain ⟨rfl, hS, P2, hm, hk2⟩ := hk _ _ _ _ _ _ q
  exact h k sh1 M1 L1 R1 n1 P2 hS hm hk2
theorem wl_E {ym : MethodName} {cm : ByteArray} {mm : Nat} {rw : Option FieldType} {avl : List Value} {idx : Nat} {k : Int32} {P2 : px_Post} {off : Int} (hS : SR sh R) (hm : MX ym cm mm rw 100 0 0 X (.ref 73 :: avl) sh M L R n P2) (hk : ∀ v2 sh2 M2 L2 R2 n2, P2 v2 sh2 M2 L2 R2 n2 → v2 = some (.int k) ∧ IA (c + 1) sh2 M2 L2 R2 n2 cu su) (hr : cu + 6 ≤ 601024 ∧ su + 42000 ≤ 7293034) (hd : decode cL_law pc = .ok (.invokevirtual idx, 3)) (hl : px_ml RL idx ym) (hy : px_my ym cm mm rw avl.length) (hst : Cond.instanceMethod ym ∈ px_G ∧ Cond.selects (px_RC 12) ym ym ∈ px_G) (h0 : st0 = avl.reverse ++ [.ref 73, .int k]) (d2 : decode cL_law (pc + 3) = .ok (.if_icmp .eq off, 3)) (ho : ((pc + 3 : Nat) : Int) + off = 3016)
    (G : ∀ sh2 M2 L2 R2 n2, IA (c + 1) sh2 M2 L2 R2 n2 cu su → LW X 3016 lv [] sh2 M2 L2 R2 n2 cu su) : LW X pc lv st0 sh M L R n cu su := by
  refine wx_callV (st := [.int k]) hd hl hy hst (sc_73 hS) (by decide) hm h0 (by omega) (by exact Nat.le_of_ble_eq_true rfl) (by omega) (by omega) ?_
  intro v sh2 M2 L2 R2 n2 q
  obtain ⟨rfl, hI⟩ := hk _ _ _ _ _ _ q
  show LW X (pc + 3) lv [.int k, .int k] sh2 M2 L2 R2 n2 cu su
  exact wx_icmp_eq (tgt := 3016) d2 ho (fun _ => G _ _ _ _ _ hI) (fun z => absurd rfl z)
end LAW
