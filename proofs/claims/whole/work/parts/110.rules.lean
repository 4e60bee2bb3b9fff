/-! the judgement: at pc, with the locals lv, the operands st and the memory, the method comes to its end QF -/
def px_C (own : String) (cc : ByteArray) (mL : Nat) (rt : Option FieldType) (nm : String × List (Nat × Nat × Nat × Nat)) (d mc ms : Nat) (X : Nat × (Nat → Int32)) (p : Program) (l : Launch) (Rm : Room) (s : State) (m : MethodId) (args : Array Value) (meth : Method) (c : Code) (B : Nat) (D : va_G) (cy : Nat → ClassId) (sx : Nat → Nat) : Prop :=
  p.tables.exec = Jvm.exec ∧ c.code = cc ∧ c.maxLocals = mL ∧ meth.sig.returnType = rt ∧ s.vm.findClass own = some m.cls ∧ (∀ w ∈ px_G, w.before args s = true) ∧ meth.locks = false ∧ px_K D cy s ∧ px_E B sx X s s.heap ∧ (meth.name = nm.1 ∧ c.exceptionTable.toList = tableOf nm.2) ∧ l.stackTraces = false ∧ B ≤ s.heap.size ∧ d ≤ Rm.frames ∧ 64 * d ≤ Rm.locals ∧ mc ≤ Rm.cells ∧ ms ≤ Rm.slots
abbrev px_F : Type := Code → List Frame → Array Value → State → Nat → va_G → (Nat → ClassId) → (Nat → Nat) → State → Prop
def WX (own : String) (cc : ByteArray) (mL : Nat) (rt : Option FieldType) (nm : String × List (Nat × Nat × Nat × Nat)) (d mc ms : Nat) (X : Nat × (Nat → Int32)) (QF : px_F) (pc : Nat) (lv : List (Nat × Value)) (st : List Value) (sh : px_Sh) (M : px_M) (L : px_L) (R : px_R) (n cu su : Nat) : Prop :=
  ∀ (p : Program) (l : Launch) (e : Env) (Rm : Room) (s : State) (m : MethodId) (args : Array Value) (below : List Frame) (meth : Method) (c : Code) (B : Nat) (D : va_G) (cy : Nat → ClassId) (sx : Nat → Nat) (H : Heap) (locs : List Loc) (ls : Array Slot),
    px_C own cc mL rt nm d mc ms X p l Rm s m args meth c B D cy sx → px_W D cy B sh M L R H → H.size = B + n → va_S (px_A B) s.heap H locs → lv_has ls mL (lv.map (px_q B sx)) →
    W p l e Rm s m args below meth c H locs cu su (QF c below args s B D cy sx) (F0 m pc ls (st.map (px_v B sx)))
/-- the local at i -/
def px_get (lv : List (Nat × Value)) (i : Nat) : Option Value := match lv with
  | [] => none
  | q :: l => if q.1 = i then some q.2 else px_get l i
theorem px_get_mem {i : Nat} {v : Value} : ∀ {lv : List (Nat × Value)}, px_get lv i = some v → (i, v) ∈ lv
  | [], h => by cases h
  | q :: l, h => by
    unfold px_get at h
    split at h
    next e => cases h; rw [← e]; exact List.mem_cons_self
    next e => exact List.mem_cons_of_mem _ (px_get_mem h)
theorem px_lat {B : Nat} {sx : Nat → Nat} {ls : Array Slot} {nL : Nat} {lv : List (Nat × Value)} {i : Nat} {v : Value} (h : lv_has ls nL (lv.map (px_q B sx))) (hk : px_get lv i = some v) : ls[i]? = some (.val (px_v B sx v)) := h.2.2 (i, px_v B sx v) (List.mem_map.mpr ⟨(i, v), px_get_mem hk, rfl⟩)
/-- the locals behind a store of one word, of two words -/
def px_s1 (lv : List (Nat × Value)) (i : Nat) (v : Value) : List (Nat × Value) := (i, v) :: lv.filter (fun q => !(q.1 == i) && !(q.1 + 1 == i && q.2.category == 2))
def px_s2 (lv : List (Nat × Value)) (i : Nat) (v : Value) : List (Nat × Value) := (i, v) :: lv.filter (fun q => !(q.1 == i) && (!(q.1 == i + 1) && !(q.1 + 1 == i && q.2.category == 2)))
theorem px_s1_map {B : Nat} {sx : Nat → Nat} {lv : List (Nat × Value)} {i : Nat} {v : Value} : (i, px_v B sx v) :: (lv.map (px_q B sx)).filter (fun q => !(q.1 == i) && !(q.1 + 1 == i && q.2.category == 2)) = (px_s1 lv i v).map (px_q B sx) := by
  unfold px_s1
  rw [List.map_cons, List.filter_map]
  congr 1
  congr 1
  apply List.filter_congr
  intro q _
  simp [px_q, px_v_cat]
theorem px_s2_map {B : Nat} {sx : Nat → Nat} {lv : List (Nat × Value)} {i : Nat} {v : Value} : (i, px_v B sx v) :: (lv.map (px_q B sx)).filter (fun q => !(q.1 == i) && (!(q.1 == i + 1) && !(q.1 + 1 == i && q.2.category == 2))) = (px_s2 lv i v).map (px_q B sx) := by
  unfold px_s2
  rw [List.map_cons, List.filter_map]
  congr 1
  congr 1
  apply List.filter_congr
  intro q _
  simp [px_q, px_v_cat]
section PXR
variable {own : String} {cc : ByteArray} {mL : Nat} {rt : Option FieldType} {nm : String × List (Nat × Nat × Nat × Nat)} {d mc ms : Nat} {X : Nat × (Nat → Int32)} {QF : px_F} {pc : Nat} {lv lv' : List (Nat × Value)} {st : List Value} {sh : px_Sh} {M : px_M} {L : px_L} {R : px_R} {n cu su : Nat}
theorem wx_iconst {k : Int} {v : Int32} (hd : decode cc pc = .ok (.iconst k, 1)) (hv : Int32.ofInt k = v) (h : WX own cc mL rt nm d mc ms X QF (pc + 1) lv (.int v :: st) sh M L R n cu su) : WX own cc mL rt nm d mc ms X QF pc lv (st) sh M L R n cu su := by
  intro p l e Rm s m args below meth c B D cy sx H locs ls hC hW hn hS hl
  exact lv_iconst hC.1 hC.2.1 hd hv (h p l e Rm s m args below meth c B D cy sx H locs ls hC hW hn hS hl)
theorem wx_bipush {k : Int} {v : Int32} (hd : decode cc pc = .ok (.bipush k, 2)) (hv : (Int8.ofInt k).toInt32 = v) (h : WX own cc mL rt nm d mc ms X QF (pc + 2) lv (.int v :: st) sh M L R n cu su) : WX own cc mL rt nm d mc ms X QF pc lv (st) sh M L R n cu su := by
  intro p l e Rm s m args below meth c B D cy sx H locs ls hC hW hn hS hl
  exact lv_bipush hC.1 hC.2.1 hd hv (h p l e Rm s m args below meth c B D cy sx H locs ls hC hW hn hS hl)
theorem wx_sipush {k : Int} {v : Int32} (hd : decode cc pc = .ok (.sipush k, 3)) (hv : (Int16.ofInt k).toInt32 = v) (h : WX own cc mL rt nm d mc ms X QF (pc + 3) lv (.int v :: st) sh M L R n cu su) : WX own cc mL rt nm d mc ms X QF pc lv (st) sh M L R n cu su := by
  intro p l e Rm s m args below meth c B D cy sx H locs ls hC hW hn hS hl
  exact lv_sipush hC.1 hC.2.1 hd hv (h p l e Rm s m args below meth c B D cy sx H locs ls hC hW hn hS hl)
theorem wx_lconst {k : Fin 2} {v : Int64} (hd : decode cc pc = .ok (.lconst k, 1)) (hv : Int64.ofNat (k : Nat) = v) (h : WX own cc mL rt nm d mc ms X QF (pc + 1) lv (.long v :: st) sh M L R n cu su) : WX own cc mL rt nm d mc ms X QF pc lv (st) sh M L R n cu su := by
  intro p l e Rm s m args below meth c B D cy sx H locs ls hC hW hn hS hl
  exact lv_lconst hC.1 hC.2.1 hd hv (h p l e Rm s m args below meth c B D cy sx H locs ls hC hW hn hS hl)
theorem wx_iload_n {k : Fin 4} {x : Int32} (hd : decode cc pc = .ok (.iload_n k, 1)) (hk : px_get lv (k : Nat) = some (.int x)) (h : WX own cc mL rt nm d mc ms X QF (pc + 1) lv (.int x :: st) sh M L R n cu su) : WX own cc mL rt nm d mc ms X QF pc lv (st) sh M L R n cu su := by
  intro p l e Rm s m args below meth c B D cy sx H locs ls hC hW hn hS hl
  exact lv_iload_n hC.1 hC.2.1 hd rfl (px_lat hl hk) (h p l e Rm s m args below meth c B D cy sx H locs ls hC hW hn hS hl)
theorem wx_iload {i : Nat} {x : Int32} (hd : decode cc pc = .ok (.iload i, 2)) (hk : px_get lv i = some (.int x)) (h : WX own cc mL rt nm d mc ms X QF (pc + 2) lv (.int x :: st) sh M L R n cu su) : WX own cc mL rt nm d mc ms X QF pc lv (st) sh M L R n cu su := by
  intro p l e Rm s m args below meth c B D cy sx H locs ls hC hW hn hS hl
  exact lv_iload hC.1 hC.2.1 hd (px_lat hl hk) (h p l e Rm s m args below meth c B D cy sx H locs ls hC hW hn hS hl)
theorem wx_lload_n {k : Fin 4} {x : Int64} (hd : decode cc pc = .ok (.lload_n k, 1)) (hk : px_get lv (k : Nat) = some (.long x)) (h : WX own cc mL rt nm d mc ms X QF (pc + 1) lv (.long x :: st) sh M L R n cu su) : WX own cc mL rt nm d mc ms X QF pc lv (st) sh M L R n cu su := by
  intro p l e Rm s m args below meth c B D cy sx H locs ls hC hW hn hS hl
  exact lv_lload_n hC.1 hC.2.1 hd rfl (px_lat hl hk) (h p l e Rm s m args below meth c B D cy sx H locs ls hC hW hn hS hl)
theorem wx_lload {i : Nat} {x : Int64} (hd : decode cc pc = .ok (.lload i, 2)) (hk : px_get lv i = some (.long x)) (h : WX own cc mL rt nm d mc ms X QF (pc + 2) lv (.long x :: st) sh M L R n cu su) : WX own cc mL rt nm d mc ms X QF pc lv (st) sh M L R n cu su := by
  intro p l e Rm s m args below meth c B D cy sx H locs ls hC hW hn hS hl
  exact lv_lload hC.1 hC.2.1 hd (px_lat hl hk) (h p l e Rm s m args below meth c B D cy sx H locs ls hC hW hn hS hl)
theorem wx_aload_n {k : Fin 4} {x : Nat} (hd : decode cc pc = .ok (.aload_n k, 1)) (hk : px_get lv (k : Nat) = some (.ref x)) (h : WX own cc mL rt nm d mc ms X QF (pc + 1) lv (.ref x :: st) sh M L R n cu su) : WX own cc mL rt nm d mc ms X QF pc lv (st) sh M L R n cu su := by
  intro p l e Rm s m args below meth c B D cy sx H locs ls hC hW hn hS hl
  exact lv_aload_n hC.1 hC.2.1 hd rfl (px_lat hl hk) (h p l e Rm s m args below meth c B D cy sx H locs ls hC hW hn hS hl)
theorem wx_aload {i : Nat} {x : Nat} (hd : decode cc pc = .ok (.aload i, 2)) (hk : px_get lv i = some (.ref x)) (h : WX own cc mL rt nm d mc ms X QF (pc + 2) lv (.ref x :: st) sh M L R n cu su) : WX own cc mL rt nm d mc ms X QF pc lv (st) sh M L R n cu su := by
  intro p l e Rm s m args below meth c B D cy sx H locs ls hC hW hn hS hl
  exact lv_aload hC.1 hC.2.1 hd (px_lat hl hk) (h p l e Rm s m args below meth c B D cy sx H locs ls hC hW hn hS hl)
theorem wx_xload_n {k : Fin 4} {x : Nat} (hd : decode cc pc = .ok (.aload_n k, 1)) (hk : px_get lv (k : Nat) = some (.retAddr x)) (h : WX own cc mL rt nm d mc ms X QF (pc + 1) lv (.retAddr x :: st) sh M L R n cu su) : WX own cc mL rt nm d mc ms X QF pc lv (st) sh M L R n cu su := by
  intro p l e Rm s m args below meth c B D cy sx H locs ls hC hW hn hS hl
  exact lv_aload_n hC.1 hC.2.1 hd rfl (px_lat hl hk) (h p l e Rm s m args below meth c B D cy sx H locs ls hC hW hn hS hl)
theorem wx_xload {i : Nat} {x : Nat} (hd : decode cc pc = .ok (.aload i, 2)) (hk : px_get lv i = some (.retAddr x)) (h : WX own cc mL rt nm d mc ms X QF (pc + 2) lv (.retAddr x :: st) sh M L R n cu su) : WX own cc mL rt nm d mc ms X QF pc lv (st) sh M L R n cu su := by
  intro p l e Rm s m args below meth c B D cy sx H locs ls hC hW hn hS hl
  exact lv_aload hC.1 hC.2.1 hd (px_lat hl hk) (h p l e Rm s m args below meth c B D cy sx H locs ls hC hW hn hS hl)
theorem wx_istore_n {k : Fin 4} {x : Int32} (hd : decode cc pc = .ok (.istore_n k, 1)) (hi : (k : Nat) < mL) (hs : px_s1 lv (k : Nat) (.int x) = lv') (h : WX own cc mL rt nm d mc ms X QF (pc + 1) lv' st sh M L R n cu su) : WX own cc mL rt nm d mc ms X QF pc lv (.int x :: st) sh M L R n cu su := by
  intro p l e Rm s m args below meth c B D cy sx H locs ls hC hW hn hS hl
  exact lv_istore_n hC.1 hC.2.1 hd rfl hl hi (by rw [← hs]; exact px_s1_map (v := .int x)) (fun ls' hl' => h p l e Rm s m args below meth c B D cy sx H locs ls' hC hW hn hS hl')
theorem wx_istore {i : Nat} {x : Int32} (hd : decode cc pc = .ok (.istore i, 2)) (hi : i < mL) (hs : px_s1 lv i (.int x) = lv') (h : WX own cc mL rt nm d mc ms X QF (pc + 2) lv' st sh M L R n cu su) : WX own cc mL rt nm d mc ms X QF pc lv (.int x :: st) sh M L R n cu su := by
  intro p l e Rm s m args below meth c B D cy sx H locs ls hC hW hn hS hl
  exact lv_istore hC.1 hC.2.1 hd hl hi (by rw [← hs]; exact px_s1_map (v := .int x)) (fun ls' hl' => h p l e Rm s m args below meth c B D cy sx H locs ls' hC hW hn hS hl')
theorem wx_lstore_n {k : Fin 4} {x : Int64} (hd : decode cc pc = .ok (.lstore_n k, 1)) (hi : (k : Nat) + 1 < mL) (hs : px_s2 lv (k : Nat) (.long x) = lv') (h : WX own cc mL rt nm d mc ms X QF (pc + 1) lv' st sh M L R n cu su) : WX own cc mL rt nm d mc ms X QF pc lv (.long x :: st) sh M L R n cu su := by
  intro p l e Rm s m args below meth c B D cy sx H locs ls hC hW hn hS hl
  exact lv_lstore_n hC.1 hC.2.1 hd rfl hl hi (by rw [← hs]; exact px_s2_map (v := .long x)) (fun ls' hl' => h p l e Rm s m args below meth c B D cy sx H locs ls' hC hW hn hS hl')
theorem wx_lstore {i : Nat} {x : Int64} (hd : decode cc pc = .ok (.lstore i, 2)) (hi : i + 1 < mL) (hs : px_s2 lv i (.long x) = lv') (h : WX own cc mL rt nm d mc ms X QF (pc + 2) lv' st sh M L R n cu su) : WX own cc mL rt nm d mc ms X QF pc lv (.long x :: st) sh M L R n cu su := by
  intro p l e Rm s m args below meth c B D cy sx H locs ls hC hW hn hS hl
  exact lv_lstore hC.1 hC.2.1 hd hl hi (by rw [← hs]; exact px_s2_map (v := .long x)) (fun ls' hl' => h p l e Rm s m args below meth c B D cy sx H locs ls' hC hW hn hS hl')
theorem wx_astore_n {k : Fin 4} {x : Nat} (hd : decode cc pc = .ok (.astore_n k, 1)) (hi : (k : Nat) < mL) (hs : px_s1 lv (k : Nat) (.ref x) = lv') (h : WX own cc mL rt nm d mc ms X QF (pc + 1) lv' st sh M L R n cu su) : WX own cc mL rt nm d mc ms X QF pc lv (.ref x :: st) sh M L R n cu su := by
  intro p l e Rm s m args below meth c B D cy sx H locs ls hC hW hn hS hl
  exact lv_astore_n hC.1 hC.2.1 hd rfl hl hi (by rw [← hs]; exact px_s1_map (v := .ref x)) (fun ls' hl' => h p l e Rm s m args below meth c B D cy sx H locs ls' hC hW hn hS hl')
theorem wx_astore {i : Nat} {x : Nat} (hd : decode cc pc = .ok (.astore i, 2)) (hi : i < mL) (hs : px_s1 lv i (.ref x) = lv') (h : WX own cc mL rt nm d mc ms X QF (pc + 2) lv' st sh M L R n cu su) : WX own cc mL rt nm d mc ms X QF pc lv (.ref x :: st) sh M L R n cu su := by
  intro p l e Rm s m args below meth c B D cy sx H locs ls hC hW hn hS hl
  exact lv_astore hC.1 hC.2.1 hd hl hi (by rw [← hs]; exact px_s1_map (v := .ref x)) (fun ls' hl' => h p l e Rm s m args below meth c B D cy sx H locs ls' hC hW hn hS hl')
theorem wx_iinc {i : Nat} {k : Int} {x v : Int32} (hd : decode cc pc = .ok (.iinc i k, 3)) (hk : px_get lv i = some (.int x)) (hv : x + Int32.ofInt k = v) (hi : i < mL) (hs : px_s1 lv i (.int v) = lv') (h : WX own cc mL rt nm d mc ms X QF (pc + 3) lv' st sh M L R n cu su) : WX own cc mL rt nm d mc ms X QF pc lv st sh M L R n cu su := by
  intro p l e Rm s m args below meth c B D cy sx H locs ls hC hW hn hS hl
  obtain ⟨j, hj⟩ := List.getElem?_of_mem (List.mem_map.mpr ⟨(i, .int x), px_get_mem hk, rfl⟩ : px_q B sx (i, .int x) ∈ lv.map (px_q B sx))
  exact lv_iinc hC.1 hC.2.1 hd hl hj hv hi (by rw [← hs]; exact px_s1_map (v := .int v)) (fun ls' hl' => h p l e Rm s m args below meth c B D cy sx H locs ls' hC hW hn hS hl')
theorem wx_iadd {x y : Int32} (hd : decode cc pc = .ok (.iadd, 1)) (h : WX own cc mL rt nm d mc ms X QF (pc + 1) lv (.int (x + y) :: st) sh M L R n cu su) : WX own cc mL rt nm d mc ms X QF pc lv (.int y :: .int x :: st) sh M L R n cu su := by
  intro p l e Rm s m args below meth c B D cy sx H locs ls hC hW hn hS hl
  exact lv_iadd hC.1 hC.2.1 hd (h p l e Rm s m args below meth c B D cy sx H locs ls hC hW hn hS hl)
theorem wx_isub {x y : Int32} (hd : decode cc pc = .ok (.isub, 1)) (h : WX own cc mL rt nm d mc ms X QF (pc + 1) lv (.int (x - y) :: st) sh M L R n cu su) : WX own cc mL rt nm d mc ms X QF pc lv (.int y :: .int x :: st) sh M L R n cu su := by
  intro p l e Rm s m args below meth c B D cy sx H locs ls hC hW hn hS hl
  exact lv_isub hC.1 hC.2.1 hd (h p l e Rm s m args below meth c B D cy sx H locs ls hC hW hn hS hl)
theorem wx_imul {x y : Int32} (hd : decode cc pc = .ok (.imul, 1)) (h : WX own cc mL rt nm d mc ms X QF (pc + 1) lv (.int (x * y) :: st) sh M L R n cu su) : WX own cc mL rt nm d mc ms X QF pc lv (.int y :: .int x :: st) sh M L R n cu su := by
  intro p l e Rm s m args below meth c B D cy sx H locs ls hC hW hn hS hl
  exact lv_imul hC.1 hC.2.1 hd (h p l e Rm s m args below meth c B D cy sx H locs ls hC hW hn hS hl)
theorem wx_iand {x y : Int32} (hd : decode cc pc = .ok (.iand, 1)) (h : WX own cc mL rt nm d mc ms X QF (pc + 1) lv (.int (x &&& y) :: st) sh M L R n cu su) : WX own cc mL rt nm d mc ms X QF pc lv (.int y :: .int x :: st) sh M L R n cu su := by
  intro p l e Rm s m args below meth c B D cy sx H locs ls hC hW hn hS hl
  exact lv_iand hC.1 hC.2.1 hd (h p l e Rm s m args below meth c B D cy sx H locs ls hC hW hn hS hl)
theorem wx_ior {x y : Int32} (hd : decode cc pc = .ok (.ior, 1)) (h : WX own cc mL rt nm d mc ms X QF (pc + 1) lv (.int (x ||| y) :: st) sh M L R n cu su) : WX own cc mL rt nm d mc ms X QF pc lv (.int y :: .int x :: st) sh M L R n cu su := by
  intro p l e Rm s m args below meth c B D cy sx H locs ls hC hW hn hS hl
  exact lv_ior hC.1 hC.2.1 hd (h p l e Rm s m args below meth c B D cy sx H locs ls hC hW hn hS hl)
theorem wx_ixor {x y : Int32} (hd : decode cc pc = .ok (.ixor, 1)) (h : WX own cc mL rt nm d mc ms X QF (pc + 1) lv (.int (x ^^^ y) :: st) sh M L R n cu su) : WX own cc mL rt nm d mc ms X QF pc lv (.int y :: .int x :: st) sh M L R n cu su := by
  intro p l e Rm s m args below meth c B D cy sx H locs ls hC hW hn hS hl
  exact lv_ixor hC.1 hC.2.1 hd (h p l e Rm s m args below meth c B D cy sx H locs ls hC hW hn hS hl)
theorem wx_ishl {x y : Int32} (hd : decode cc pc = .ok (.ishl, 1)) (h : WX own cc mL rt nm d mc ms X QF (pc + 1) lv (.int (x <<< (y &&& 31)) :: st) sh M L R n cu su) : WX own cc mL rt nm d mc ms X QF pc lv (.int y :: .int x :: st) sh M L R n cu su := by
  intro p l e Rm s m args below meth c B D cy sx H locs ls hC hW hn hS hl
  exact lv_ishl hC.1 hC.2.1 hd (h p l e Rm s m args below meth c B D cy sx H locs ls hC hW hn hS hl)
theorem wx_ishr {x y : Int32} (hd : decode cc pc = .ok (.ishr, 1)) (h : WX own cc mL rt nm d mc ms X QF (pc + 1) lv (.int (x >>> (y &&& 31)) :: st) sh M L R n cu su) : WX own cc mL rt nm d mc ms X QF pc lv (.int y :: .int x :: st) sh M L R n cu su := by
  intro p l e Rm s m args below meth c B D cy sx H locs ls hC hW hn hS hl
  exact lv_ishr hC.1 hC.2.1 hd (h p l e Rm s m args below meth c B D cy sx H locs ls hC hW hn hS hl)
theorem wx_idiv {x y : Int32} (hd : decode cc pc = .ok (.idiv, 1)) (hne : ¬ y = 0) (h : WX own cc mL rt nm d mc ms X QF (pc + 1) lv (.int (x / y) :: st) sh M L R n cu su) : WX own cc mL rt nm d mc ms X QF pc lv (.int y :: .int x :: st) sh M L R n cu su := by
  intro p l e Rm s m args below meth c B D cy sx H locs ls hC hW hn hS hl
  exact lv_idiv hC.1 hC.2.1 hd hne (h p l e Rm s m args below meth c B D cy sx H locs ls hC hW hn hS hl)
theorem wx_irem {x y : Int32} (hd : decode cc pc = .ok (.irem, 1)) (hne : ¬ y = 0) (h : WX own cc mL rt nm d mc ms X QF (pc + 1) lv (.int (x - x / y * y) :: st) sh M L R n cu su) : WX own cc mL rt nm d mc ms X QF pc lv (.int y :: .int x :: st) sh M L R n cu su := by
  intro p l e Rm s m args below meth c B D cy sx H locs ls hC hW hn hS hl
  exact lv_irem hC.1 hC.2.1 hd hne (h p l e Rm s m args below meth c B D cy sx H locs ls hC hW hn hS hl)
theorem wx_ineg {x : Int32} (hd : decode cc pc = .ok (.ineg, 1)) (h : WX own cc mL rt nm d mc ms X QF (pc + 1) lv (.int (-x) :: st) sh M L R n cu su) : WX own cc mL rt nm d mc ms X QF pc lv (.int x :: st) sh M L R n cu su := by
  intro p l e Rm s m args below meth c B D cy sx H locs ls hC hW hn hS hl
  exact lv_ineg hC.1 hC.2.1 hd (h p l e Rm s m args below meth c B D cy sx H locs ls hC hW hn hS hl)
theorem wx_ladd {x y : Int64} (hd : decode cc pc = .ok (.ladd, 1)) (h : WX own cc mL rt nm d mc ms X QF (pc + 1) lv (.long (x + y) :: st) sh M L R n cu su) : WX own cc mL rt nm d mc ms X QF pc lv (.long y :: .long x :: st) sh M L R n cu su := by
  intro p l e Rm s m args below meth c B D cy sx H locs ls hC hW hn hS hl
  exact lv_ladd hC.1 hC.2.1 hd (h p l e Rm s m args below meth c B D cy sx H locs ls hC hW hn hS hl)
theorem wx_lsub {x y : Int64} (hd : decode cc pc = .ok (.lsub, 1)) (h : WX own cc mL rt nm d mc ms X QF (pc + 1) lv (.long (x - y) :: st) sh M L R n cu su) : WX own cc mL rt nm d mc ms X QF pc lv (.long y :: .long x :: st) sh M L R n cu su := by
  intro p l e Rm s m args below meth c B D cy sx H locs ls hC hW hn hS hl
  exact lv_lsub hC.1 hC.2.1 hd (h p l e Rm s m args below meth c B D cy sx H locs ls hC hW hn hS hl)
theorem wx_lmul {x y : Int64} (hd : decode cc pc = .ok (.lmul, 1)) (h : WX own cc mL rt nm d mc ms X QF (pc + 1) lv (.long (x * y) :: st) sh M L R n cu su) : WX own cc mL rt nm d mc ms X QF pc lv (.long y :: .long x :: st) sh M L R n cu su := by
  intro p l e Rm s m args below meth c B D cy sx H locs ls hC hW hn hS hl
  exact lv_lmul hC.1 hC.2.1 hd (h p l e Rm s m args below meth c B D cy sx H locs ls hC hW hn hS hl)
theorem wx_land {x y : Int64} (hd : decode cc pc = .ok (.land, 1)) (h : WX own cc mL rt nm d mc ms X QF (pc + 1) lv (.long (x &&& y) :: st) sh M L R n cu su) : WX own cc mL rt nm d mc ms X QF pc lv (.long y :: .long x :: st) sh M L R n cu su := by
  intro p l e Rm s m args below meth c B D cy sx H locs ls hC hW hn hS hl
  exact lv_land hC.1 hC.2.1 hd (h p l e Rm s m args below meth c B D cy sx H locs ls hC hW hn hS hl)
theorem wx_lor {x y : Int64} (hd : decode cc pc = .ok (.lor, 1)) (h : WX own cc mL rt nm d mc ms X QF (pc + 1) lv (.long (x ||| y) :: st) sh M L R n cu su) : WX own cc mL rt nm d mc ms X QF pc lv (.long y :: .long x :: st) sh M L R n cu su := by
  intro p l e Rm s m args below meth c B D cy sx H locs ls hC hW hn hS hl
  exact lv_lor hC.1 hC.2.1 hd (h p l e Rm s m args below meth c B D cy sx H locs ls hC hW hn hS hl)
theorem wx_ldiv {x y : Int64} (hd : decode cc pc = .ok (.ldiv, 1)) (hne : ¬ y = 0) (h : WX own cc mL rt nm d mc ms X QF (pc + 1) lv (.long (x / y) :: st) sh M L R n cu su) : WX own cc mL rt nm d mc ms X QF pc lv (.long y :: .long x :: st) sh M L R n cu su := by
  intro p l e Rm s m args below meth c B D cy sx H locs ls hC hW hn hS hl
  exact lv_ldiv hC.1 hC.2.1 hd hne (h p l e Rm s m args below meth c B D cy sx H locs ls hC hW hn hS hl)
theorem wx_lrem {x y : Int64} (hd : decode cc pc = .ok (.lrem, 1)) (hne : ¬ y = 0) (h : WX own cc mL rt nm d mc ms X QF (pc + 1) lv (.long (x - x / y * y) :: st) sh M L R n cu su) : WX own cc mL rt nm d mc ms X QF pc lv (.long y :: .long x :: st) sh M L R n cu su := by
  intro p l e Rm s m args below meth c B D cy sx H locs ls hC hW hn hS hl
  exact lv_lrem hC.1 hC.2.1 hd hne (h p l e Rm s m args below meth c B D cy sx H locs ls hC hW hn hS hl)
theorem wx_lneg {x : Int64} (hd : decode cc pc = .ok (.lneg, 1)) (h : WX own cc mL rt nm d mc ms X QF (pc + 1) lv (.long (-x) :: st) sh M L R n cu su) : WX own cc mL rt nm d mc ms X QF pc lv (.long x :: st) sh M L R n cu su := by
  intro p l e Rm s m args below meth c B D cy sx H locs ls hC hW hn hS hl
  exact lv_lneg hC.1 hC.2.1 hd (h p l e Rm s m args below meth c B D cy sx H locs ls hC hW hn hS hl)
theorem wx_i2l {x : Int32} (hd : decode cc pc = .ok (.i2l, 1)) (h : WX own cc mL rt nm d mc ms X QF (pc + 1) lv (.long x.toInt64 :: st) sh M L R n cu su) : WX own cc mL rt nm d mc ms X QF pc lv (.int x :: st) sh M L R n cu su := by
  intro p l e Rm s m args below meth c B D cy sx H locs ls hC hW hn hS hl
  exact lv_i2l hC.1 hC.2.1 hd rfl (h p l e Rm s m args below meth c B D cy sx H locs ls hC hW hn hS hl)
theorem wx_l2i {x : Int64} (hd : decode cc pc = .ok (.l2i, 1)) (h : WX own cc mL rt nm d mc ms X QF (pc + 1) lv (.int x.toInt32 :: st) sh M L R n cu su) : WX own cc mL rt nm d mc ms X QF pc lv (.long x :: st) sh M L R n cu su := by
  intro p l e Rm s m args below meth c B D cy sx H locs ls hC hW hn hS hl
  exact lv_l2i hC.1 hC.2.1 hd rfl (h p l e Rm s m args below meth c B D cy sx H locs ls hC hW hn hS hl)
theorem wx_i2c {x : Int32} (hd : decode cc pc = .ok (.i2c, 1)) (h : WX own cc mL rt nm d mc ms X QF (pc + 1) lv (.int (x.toUInt32 % 65536).toInt32 :: st) sh M L R n cu su) : WX own cc mL rt nm d mc ms X QF pc lv (.int x :: st) sh M L R n cu su := by
  intro p l e Rm s m args below meth c B D cy sx H locs ls hC hW hn hS hl
  exact lv_i2c hC.1 hC.2.1 hd rfl (h p l e Rm s m args below meth c B D cy sx H locs ls hC hW hn hS hl)
theorem wx_iushr {x y : Int32} (hd : decode cc pc = .ok (.iushr, 1)) (h : WX own cc mL rt nm d mc ms X QF (pc + 1) lv (.int (x.toUInt32 >>> (y.toUInt32 &&& Int32.toUInt32 31)).toInt32 :: st) sh M L R n cu su) : WX own cc mL rt nm d mc ms X QF pc lv (.int y :: .int x :: st) sh M L R n cu su := by
  intro p l e Rm s m args below meth c B D cy sx H locs ls hC hW hn hS hl
  exact lv_iushr hC.1 hC.2.1 hd rfl (h p l e Rm s m args below meth c B D cy sx H locs ls hC hW hn hS hl)
theorem wx_lushr {x : Int64} {y : Int32} (hd : decode cc pc = .ok (.lushr, 1)) (h : WX own cc mL rt nm d mc ms X QF (pc + 1) lv (.long (x.toUInt64 >>> (y.toInt64.toUInt64 &&& Int64.toUInt64 63)).toInt64 :: st) sh M L R n cu su) : WX own cc mL rt nm d mc ms X QF pc lv (.int y :: .long x :: st) sh M L R n cu su := by
  intro p l e Rm s m args below meth c B D cy sx H locs ls hC hW hn hS hl
  exact lv_lushr hC.1 hC.2.1 hd rfl (h p l e Rm s m args below meth c B D cy sx H locs ls hC hW hn hS hl)
theorem wx_lshl {x : Int64} {y : Int32} (hd : decode cc pc = .ok (.lshl, 1)) (h : WX own cc mL rt nm d mc ms X QF (pc + 1) lv (.long (x <<< (y.toInt64 &&& 63)) :: st) sh M L R n cu su) : WX own cc mL rt nm d mc ms X QF pc lv (.int y :: .long x :: st) sh M L R n cu su := by
  intro p l e Rm s m args below meth c B D cy sx H locs ls hC hW hn hS hl
  exact lv_lshl hC.1 hC.2.1 hd rfl (h p l e Rm s m args below meth c B D cy sx H locs ls hC hW hn hS hl)
theorem wx_lshr {x : Int64} {y : Int32} (hd : decode cc pc = .ok (.lshr, 1)) (h : WX own cc mL rt nm d mc ms X QF (pc + 1) lv (.long (x >>> (y.toInt64 &&& 63)) :: st) sh M L R n cu su) : WX own cc mL rt nm d mc ms X QF pc lv (.int y :: .long x :: st) sh M L R n cu su := by
  intro p l e Rm s m args below meth c B D cy sx H locs ls hC hW hn hS hl
  exact lv_lshr hC.1 hC.2.1 hd rfl (h p l e Rm s m args below meth c B D cy sx H locs ls hC hW hn hS hl)
theorem wx_lcmp {x y : Int64} (hd : decode cc pc = .ok (.lcmp, 1)) (h : WX own cc mL rt nm d mc ms X QF (pc + 1) lv (.int (lg_cmp x y) :: st) sh M L R n cu su) : WX own cc mL rt nm d mc ms X QF pc lv (.long y :: .long x :: st) sh M L R n cu su := by
  intro p l e Rm s m args below meth c B D cy sx H locs ls hC hW hn hS hl
  exact W.lcmp hC.1 hC.2.1 hd (h p l e Rm s m args below meth c B D cy sx H locs ls hC hW hn hS hl)
theorem wx_dup {v : Value} (hd : decode cc pc = .ok (.dup, 1)) (hv : v.category = 1) (h : WX own cc mL rt nm d mc ms X QF (pc + 1) lv (v :: v :: st) sh M L R n cu su) : WX own cc mL rt nm d mc ms X QF pc lv (v :: st) sh M L R n cu su := by
  intro p l e Rm s m args below meth c B D cy sx H locs ls hC hW hn hS hl
  exact lv_dup hC.1 hC.2.1 hd ((px_v_cat B sx v).trans hv) (h p l e Rm s m args below meth c B D cy sx H locs ls hC hW hn hS hl)
theorem wx_pop {v : Value} (hd : decode cc pc = .ok (.pop, 1)) (hv : v.category = 1) (h : WX own cc mL rt nm d mc ms X QF (pc + 1) lv (st) sh M L R n cu su) : WX own cc mL rt nm d mc ms X QF pc lv (v :: st) sh M L R n cu su := by
  intro p l e Rm s m args below meth c B D cy sx H locs ls hC hW hn hS hl
  exact lv_pop hC.1 hC.2.1 hd ((px_v_cat B sx v).trans hv) (h p l e Rm s m args below meth c B D cy sx H locs ls hC hW hn hS hl)
theorem wx_dup_x1 {v w : Value} (hd : decode cc pc = .ok (.dup_x1, 1)) (hv : v.category = 1) (hw : w.category = 1) (h : WX own cc mL rt nm d mc ms X QF (pc + 1) lv (v :: w :: v :: st) sh M L R n cu su) : WX own cc mL rt nm d mc ms X QF pc lv (v :: w :: st) sh M L R n cu su := by
  intro p l e Rm s m args below meth c B D cy sx H locs ls hC hW hn hS hl
  exact lv_dup_x1 hC.1 hC.2.1 hd ((px_v_cat B sx v).trans hv) ((px_v_cat B sx w).trans hw) (h p l e Rm s m args below meth c B D cy sx H locs ls hC hW hn hS hl)
theorem wx_goto {off : Int} {tgt : Nat} (hd : decode cc pc = .ok (.goto off, 3)) (ht : (pc : Int) + off = (tgt : Int)) (h : WX own cc mL rt nm d mc ms X QF tgt lv st sh M L R n cu su) : WX own cc mL rt nm d mc ms X QF pc lv st sh M L R n cu su := by
  intro p l e Rm s m args below meth c B D cy sx H locs ls hC hW hn hS hl
  exact lv_goto hC.1 hC.2.1 hd ht (h p l e Rm s m args below meth c B D cy sx H locs ls hC hW hn hS hl)
theorem wx_if_eq {x : Int32} {off : Int} {tgt : Nat} (hd : decode cc pc = .ok (.ifCond .eq off, 3)) (ht : (pc : Int) + off = (tgt : Int)) (kt : x = 0 → WX own cc mL rt nm d mc ms X QF tgt lv st sh M L R n cu su) (kf : ¬ x = 0 → WX own cc mL rt nm d mc ms X QF (pc + 3) lv st sh M L R n cu su) : WX own cc mL rt nm d mc ms X QF pc lv (.int x :: st) sh M L R n cu su := by
  intro p l e Rm s m args below meth c B D cy sx H locs ls hC hW hn hS hl
  exact lv_if_eq hC.1 hC.2.1 hd ht (fun q => kt q p l e Rm s m args below meth c B D cy sx H locs ls hC hW hn hS hl) (fun q => kf q p l e Rm s m args below meth c B D cy sx H locs ls hC hW hn hS hl)
theorem wx_if_ne {x : Int32} {off : Int} {tgt : Nat} (hd : decode cc pc = .ok (.ifCond .ne off, 3)) (ht : (pc : Int) + off = (tgt : Int)) (kt : ¬ x = 0 → WX own cc mL rt nm d mc ms X QF tgt lv st sh M L R n cu su) (kf : x = 0 → WX own cc mL rt nm d mc ms X QF (pc + 3) lv st sh M L R n cu su) : WX own cc mL rt nm d mc ms X QF pc lv (.int x :: st) sh M L R n cu su := by
  intro p l e Rm s m args below meth c B D cy sx H locs ls hC hW hn hS hl
  exact lv_if_ne hC.1 hC.2.1 hd ht (fun q => kt q p l e Rm s m args below meth c B D cy sx H locs ls hC hW hn hS hl) (fun q => kf q p l e Rm s m args below meth c B D cy sx H locs ls hC hW hn hS hl)
theorem wx_if_lt {x : Int32} {off : Int} {tgt : Nat} (hd : decode cc pc = .ok (.ifCond .lt off, 3)) (ht : (pc : Int) + off = (tgt : Int)) (kt : x < 0 → WX own cc mL rt nm d mc ms X QF tgt lv st sh M L R n cu su) (kf : ¬ x < 0 → WX own cc mL rt nm d mc ms X QF (pc + 3) lv st sh M L R n cu su) : WX own cc mL rt nm d mc ms X QF pc lv (.int x :: st) sh M L R n cu su := by
  intro p l e Rm s m args below meth c B D cy sx H locs ls hC hW hn hS hl
  exact lv_if_lt hC.1 hC.2.1 hd ht (fun q => kt q p l e Rm s m args below meth c B D cy sx H locs ls hC hW hn hS hl) (fun q => kf q p l e Rm s m args below meth c B D cy sx H locs ls hC hW hn hS hl)
theorem wx_if_ge {x : Int32} {off : Int} {tgt : Nat} (hd : decode cc pc = .ok (.ifCond .ge off, 3)) (ht : (pc : Int) + off = (tgt : Int)) (kt : 0 ≤ x → WX own cc mL rt nm d mc ms X QF tgt lv st sh M L R n cu su) (kf : ¬ 0 ≤ x → WX own cc mL rt nm d mc ms X QF (pc + 3) lv st sh M L R n cu su) : WX own cc mL rt nm d mc ms X QF pc lv (.int x :: st) sh M L R n cu su := by
  intro p l e Rm s m args below meth c B D cy sx H locs ls hC hW hn hS hl
  exact lv_if_ge hC.1 hC.2.1 hd ht (fun q => kt q p l e Rm s m args below meth c B D cy sx H locs ls hC hW hn hS hl) (fun q => kf q p l e Rm s m args below meth c B D cy sx H locs ls hC hW hn hS hl)
theorem wx_if_gt {x : Int32} {off : Int} {tgt : Nat} (hd : decode cc pc = .ok (.ifCond .gt off, 3)) (ht : (pc : Int) + off = (tgt : Int)) (kt : 0 < x → WX own cc mL rt nm d mc ms X QF tgt lv st sh M L R n cu su) (kf : ¬ 0 < x → WX own cc mL rt nm d mc ms X QF (pc + 3) lv st sh M L R n cu su) : WX own cc mL rt nm d mc ms X QF pc lv (.int x :: st) sh M L R n cu su := by
  intro p l e Rm s m args below meth c B D cy sx H locs ls hC hW hn hS hl
  exact lv_if_gt hC.1 hC.2.1 hd ht (fun q => kt q p l e Rm s m args below meth c B D cy sx H locs ls hC hW hn hS hl) (fun q => kf q p l e Rm s m args below meth c B D cy sx H locs ls hC hW hn hS hl)
theorem wx_if_le {x : Int32} {off : Int} {tgt : Nat} (hd : decode cc pc = .ok (.ifCond .le off, 3)) (ht : (pc : Int) + off = (tgt : Int)) (kt : x ≤ 0 → WX own cc mL rt nm d mc ms X QF tgt lv st sh M L R n cu su) (kf : ¬ x ≤ 0 → WX own cc mL rt nm d mc ms X QF (pc + 3) lv st sh M L R n cu su) : WX own cc mL rt nm d mc ms X QF pc lv (.int x :: st) sh M L R n cu su := by
  intro p l e Rm s m args below meth c B D cy sx H locs ls hC hW hn hS hl
  exact lv_if_le hC.1 hC.2.1 hd ht (fun q => kt q p l e Rm s m args below meth c B D cy sx H locs ls hC hW hn hS hl) (fun q => kf q p l e Rm s m args below meth c B D cy sx H locs ls hC hW hn hS hl)
theorem wx_icmp_eq {x y : Int32} {off : Int} {tgt : Nat} (hd : decode cc pc = .ok (.if_icmp .eq off, 3)) (ht : (pc : Int) + off = (tgt : Int)) (kt : x = y → WX own cc mL rt nm d mc ms X QF tgt lv st sh M L R n cu su) (kf : ¬ x = y → WX own cc mL rt nm d mc ms X QF (pc + 3) lv st sh M L R n cu su) : WX own cc mL rt nm d mc ms X QF pc lv (.int y :: .int x :: st) sh M L R n cu su := by
  intro p l e Rm s m args below meth c B D cy sx H locs ls hC hW hn hS hl
  exact lv_icmp_eq hC.1 hC.2.1 hd ht (fun q => kt q p l e Rm s m args below meth c B D cy sx H locs ls hC hW hn hS hl) (fun q => kf q p l e Rm s m args below meth c B D cy sx H locs ls hC hW hn hS hl)
theorem wx_icmp_ne {x y : Int32} {off : Int} {tgt : Nat} (hd : decode cc pc = .ok (.if_icmp .ne off, 3)) (ht : (pc : Int) + off = (tgt : Int)) (kt : ¬ x = y → WX own cc mL rt nm d mc ms X QF tgt lv st sh M L R n cu su) (kf : x = y → WX own cc mL rt nm d mc ms X QF (pc + 3) lv st sh M L R n cu su) : WX own cc mL rt nm d mc ms X QF pc lv (.int y :: .int x :: st) sh M L R n cu su := by
  intro p l e Rm s m args below meth c B D cy sx H locs ls hC hW hn hS hl
  exact lv_icmp_ne hC.1 hC.2.1 hd ht (fun q => kt q p l e Rm s m args below meth c B D cy sx H locs ls hC hW hn hS hl) (fun q => kf q p l e Rm s m args below meth c B D cy sx H locs ls hC hW hn hS hl)
theorem wx_icmp_lt {x y : Int32} {off : Int} {tgt : Nat} (hd : decode cc pc = .ok (.if_icmp .lt off, 3)) (ht : (pc : Int) + off = (tgt : Int)) (kt : x < y → WX own cc mL rt nm d mc ms X QF tgt lv st sh M L R n cu su) (kf : ¬ x < y → WX own cc mL rt nm d mc ms X QF (pc + 3) lv st sh M L R n cu su) : WX own cc mL rt nm d mc ms X QF pc lv (.int y :: .int x :: st) sh M L R n cu su := by
  intro p l e Rm s m args below meth c B D cy sx H locs ls hC hW hn hS hl
  exact lv_icmp_lt hC.1 hC.2.1 hd ht (fun q => kt q p l e Rm s m args below meth c B D cy sx H locs ls hC hW hn hS hl) (fun q => kf q p l e Rm s m args below meth c B D cy sx H locs ls hC hW hn hS hl)
theorem wx_icmp_ge {x y : Int32} {off : Int} {tgt : Nat} (hd : decode cc pc = .ok (.if_icmp .ge off, 3)) (ht : (pc : Int) + off = (tgt : Int)) (kt : y ≤ x → WX own cc mL rt nm d mc ms X QF tgt lv st sh M L R n cu su) (kf : ¬ y ≤ x → WX own cc mL rt nm d mc ms X QF (pc + 3) lv st sh M L R n cu su) : WX own cc mL rt nm d mc ms X QF pc lv (.int y :: .int x :: st) sh M L R n cu su := by
  intro p l e Rm s m args below meth c B D cy sx H locs ls hC hW hn hS hl
  exact lv_icmp_ge hC.1 hC.2.1 hd ht (fun q => kt q p l e Rm s m args below meth c B D cy sx H locs ls hC hW hn hS hl) (fun q => kf q p l e Rm s m args below meth c B D cy sx H locs ls hC hW hn hS hl)
theorem wx_icmp_gt {x y : Int32} {off : Int} {tgt : Nat} (hd : decode cc pc = .ok (.if_icmp .gt off, 3)) (ht : (pc : Int) + off = (tgt : Int)) (kt : y < x → WX own cc mL rt nm d mc ms X QF tgt lv st sh M L R n cu su) (kf : ¬ y < x → WX own cc mL rt nm d mc ms X QF (pc + 3) lv st sh M L R n cu su) : WX own cc mL rt nm d mc ms X QF pc lv (.int y :: .int x :: st) sh M L R n cu su := by
  intro p l e Rm s m args below meth c B D cy sx H locs ls hC hW hn hS hl
  exact lv_icmp_gt hC.1 hC.2.1 hd ht (fun q => kt q p l e Rm s m args below meth c B D cy sx H locs ls hC hW hn hS hl) (fun q => kf q p l e Rm s m args below meth c B D cy sx H locs ls hC hW hn hS hl)
theorem wx_icmp_le {x y : Int32} {off : Int} {tgt : Nat} (hd : decode cc pc = .ok (.if_icmp .le off, 3)) (ht : (pc : Int) + off = (tgt : Int)) (kt : x ≤ y → WX own cc mL rt nm d mc ms X QF tgt lv st sh M L R n cu su) (kf : ¬ x ≤ y → WX own cc mL rt nm d mc ms X QF (pc + 3) lv st sh M L R n cu su) : WX own cc mL rt nm d mc ms X QF pc lv (.int y :: .int x :: st) sh M L R n cu su := by
  intro p l e Rm s m args below meth c B D cy sx H locs ls hC hW hn hS hl
  exact lv_icmp_le hC.1 hC.2.1 hd ht (fun q => kt q p l e Rm s m args below meth c B D cy sx H locs ls hC hW hn hS hl) (fun q => kf q p l e Rm s m args below meth c B D cy sx H locs ls hC hW hn hS hl)
/-- fewer locals, in another order -/
theorem wx_lv (h : WX own cc mL rt nm d mc ms X QF pc lv' st sh M L R n cu su) (hs : ∀ q ∈ lv', q ∈ lv) : WX own cc mL rt nm d mc ms X QF pc lv st sh M L R n cu su := by
  intro p l e Rm s m args below meth c B D cy sx H locs ls hC hW hn hS hl
  exact h p l e Rm s m args below meth c B D cy sx H locs ls hC hW hn hS ⟨hl.1, hl.2.1, fun q hq => by
    obtain ⟨x, hx, rfl⟩ := List.mem_map.mp hq
    exact hl.2.2 _ (List.mem_map.mpr ⟨x, hs x hx, rfl⟩)⟩
/-- a name for what lies on the stack -/
theorem wx_nami {x : Int32} (h : ∀ y, y = x → WX own cc mL rt nm d mc ms X QF pc lv (.int y :: st) sh M L R n cu su) : WX own cc mL rt nm d mc ms X QF pc lv (.int x :: st) sh M L R n cu su := h x rfl
theorem wx_naml {x : Int64} (h : ∀ y, y = x → WX own cc mL rt nm d mc ms X QF pc lv (.long y :: st) sh M L R n cu su) : WX own cc mL rt nm d mc ms X QF pc lv (.long x :: st) sh M L R n cu su := h x rfl
end PXR
