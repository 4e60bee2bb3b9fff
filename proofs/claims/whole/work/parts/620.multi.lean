/-! rows of rows are made: the outer row, then its inner ones -/
section MU
theorem mu_arr {E : CtlPost} {e : Env} {d : Bool} {acts : List Action} {s : State} {c comp : ClassId} {k : Class} {ty : FieldType} {len : Nat} {x : Value} (hk : s.vm.classes[c]? = some k) (hkd : k.kind = .array comp ty)
    (hl : ¬ len > e.platform.arrayLengthLimit) (hh : ¬ len * componentBytes ty > e.platform.maxHeapBytes) (hf : fits ty x = true) (hx : x.isDefault = true) (h1 : s.heap.size < e.platform.maxCells) (h2 : s.slotsUsed + len ≤ e.platform.maxSlots) {Q : Addr → Pre}
    (hq : ∀ d' acts', Q s.heap.size d' acts' (s.pushCell (arrV c len fun _ => x))) : wp (Jvm.newArray c len x) Q E e d acts s := by
  rw [← arrV_new] at hq
  simp only [Jvm.newArray, Jvm.arrayFits, wp_bind', W.ask, W.ite, hl, if_false, wp_pure', W.theClass, hk, hkd, hh, W.alloc, W.stop, Option.some.injEq, exists_eq_left', Array.size_replicate]
  rw [if_neg (by omega)]
  refine ⟨h1, h2, fun i v hv => ?_, hq _ _⟩
  rw [Array.getElem?_replicate] at hv
  split at hv
  · cases hv
    simp [State.fitsSlot, State.slotType?, hk, hkd, hf]
  · cases hv
variable {p : Program} {l : Launch} {e : Env} {R : Room} {s : State} {m : MethodId} {args : Array Value} {below : List Frame} {meth : Method} {c : Code} {H : Heap} {locs : List Loc} {cells slots : Nat} {Q : State → Prop}
/-- what stands behind i inner rows -/
def mu_In (p : Program) (l : Launch) (e : Env) (R : Room) (s : State) (m : MethodId) (args : Array Value) (below : List Frame) (meth : Method) (c : Code) (locs : List Loc) (cells slots : Nat) (vm1 : Vm) (H : Heap) (cA cB : ClassId) (N K : Nat) (z : Value) (i : Nat) (T : State) : Prop :=
  ∃ lc, Stand p l e R s m args below meth c T lc (cells + 1 + i) (slots + N + i * K) ∧ (∀ x ∈ lc, x ∈ locs ∨ x.base = H.size) ∧ T.vm = vm1 ∧ T.heap.size = H.size + 1 + i ∧ T.heap[H.size]? = some (arrV cA N fun j => if j < i then .ref (H.size + 1 + j) else .null) ∧ (∀ j, j < i → T.heap[H.size + 1 + j]? = some (arrV cB K fun _ => z)) ∧ ∀ q, q < H.size → T.heap[q]? = H[q]?
theorem mu_go {vm1 : Vm} {cA cB : ClassId} {N K i : Nat} {z : Value} {T : State} (h : mu_In p l e R s m args below meth c locs cells slots vm1 H cA cB N K z i T) : mu_In p l e R s m args below meth c locs cells slots vm1 H cA cB N K z (i + 1) ((T.pushCell (arrV cB K fun _ => z)).setCell H.size ((arrV cA N fun j => if j < i then .ref (H.size + 1 + j) else .null).setSlot i (.ref T.heap.size))) := by
  obtain ⟨lc, X, h1, h2, h3, h4, h5, h6⟩ := h
  have hc : (T.pushCell (arrV cB K fun _ => z)).heap[H.size]? = some (arrV cA N fun j => if j < i then .ref (H.size + 1 + j) else .null) := by rw [State.heap_pushCell_of_lt _ _ (show H.size < T.heap.size by omega)]; exact h4
  have X2 := (X.pushed (arrV cB K fun _ => z)).stored hc i (.ref T.heap.size)
  rw [arrV_size] at X2
  refine ⟨lc ++ [⟨H.size, i⟩], ?_, fun x hx => ?_, h2, ?_, ?_, fun j hj => ?_, fun q hq => ?_⟩
  · rw [show cells + 1 + (i + 1) = cells + 1 + i + 1 by omega, show slots + N + (i + 1) * K = slots + N + i * K + K by rw [Nat.succ_mul]; omega]
    exact X2
  · rcases List.mem_append.mp hx with q | q
    · exact h1 x q
    · rw [List.mem_singleton.mp q]; exact Or.inr rfl
  · rw [size_setCell]
    show (T.heap.push _).size = _
    rw [Array.size_push, h3]
    omega
  · rw [heapAt_setCell_self _ (show H.size < (T.pushCell (arrV cB K fun _ => z)).heap.size by show H.size < (T.heap.push _).size; rw [Array.size_push]; omega), arrV_store]
    congr 1
    congr 1
    funext j
    unfold updV
    rw [h3]
    by_cases e : j = i
    · subst e
      simp
    · by_cases e2 : j < i
      · simp [e, e2, show j < i + 1 by omega]
      · simp [e, e2, show ¬ j < i + 1 by omega]
  · rw [heapAt_setCell_ne _ (show H.size ≠ H.size + 1 + j by omega)]
    by_cases e : j < i
    · rw [State.heap_pushCell_of_lt _ _ (show H.size + 1 + j < T.heap.size by omega)]; exact h5 j e
    · rw [show H.size + 1 + j = T.heap.size by omega]
      exact State.heap_pushCell_size _ _
  · rw [heapAt_setCell_ne _ (show H.size ≠ q by omega), State.heap_pushCell_of_lt _ _ (show q < T.heap.size by omega)]
    exact h6 q hq
/-- the state behind i inner rows -/
def mu_st (cA cB : ClassId) (N K : Nat) (z : Value) (T : State) : Nat → State
  | 0 => T.pushCell (arrV cA N fun _ => .null)
  | i + 1 => ((mu_st cA cB N K z T i).pushCell (arrV cB K fun _ => z)).setCell T.heap.size ((arrV cA N fun j => if j < i then .ref (T.heap.size + 1 + j) else .null).setSlot i (.ref (mu_st cA cB N K z T i).heap.size))
theorem mu_top (cA cB : ClassId) (N K : Nat) (z : Value) (T : State) (f : JFrame) : ∀ i, mu_st cA cB N K z (T.setTop f) i = (mu_st cA cB N K z T i).setTop f
  | 0 => rfl
  | i + 1 => by
    unfold mu_st
    rw [mu_top cA cB N K z T f i]
    rfl
theorem mu_all {T : State} (X : Stand p l e R s m args below meth c T locs cells slots) (cA cB : ClassId) (N K : Nat) (z : Value) : ∀ i, mu_In p l e R s m args below meth c locs cells slots T.vm T.heap cA cB N K z i (mu_st cA cB N K z T i)
  | 0 => by
    have X2 := X.pushed (arrV cA N fun _ => Value.null)
    rw [arrV_size] at X2
    refine ⟨locs, by rw [Nat.zero_mul]; exact X2, fun x hx => Or.inl hx, rfl, ?_, ?_, fun j hj => absurd hj (by omega), fun q hq => State.heap_pushCell_of_lt _ _ hq⟩
    · show (T.heap.push _).size = _
      rw [Array.size_push]
    · rw [show (fun j => if j < 0 then Value.ref (T.heap.size + 1 + j) else .null) = fun _ => Value.null from funext fun j => if_neg (Nat.not_lt_zero j)]
      exact State.heap_pushCell_size _ _
  | i + 1 => mu_go (mu_all X cA cB N K z i)
theorem W.mu {cc : ByteArray} (hexec : p.tables.exec = Jvm.exec) (hb : c.code = cc) {own : String} {idx : Nat} {ty : FieldType} (hown : s.vm.findClass own = some m.cls) (hcl : (Cond.classLink own idx ("[" ++ (FieldType.array ty).toString)).before args s = true)
    (hma : va_MA ty s) {g : JFrame} (hg : g.method = m) (hdg : decode cc g.pc = .ok (.multianewarray idx 2, 4)) {n k : Int32} {N K : Nat} {rest : List Value} (hst : g.stack = .int k :: .int n :: rest)
    (hn : ¬ n < 0) (hk : ¬ k < 0) (hN : n.toNatClampNeg = N) (hK : k.toNatClampNeg = K) (hN2 : N ≤ 60000000) (hK2 : K ≤ 60000000) (hdf : fits ty (defaultValue ty) = true) (hdd : (defaultValue ty).isDefault = true) (hcb : componentBytes ty ≤ 8) (hcells : cells + (1 + N) ≤ R.cells) (hslots : slots + (N + N * K) ≤ R.slots)
    (kk : ∀ (cA cB : ClassId) (H1 : Heap) (lc : List Loc), s.vm.findClass ("[" ++ (FieldType.array ty).toString) = some cA → s.vm.findClass (FieldType.array ty).toString = some cB → (∀ x ∈ lc, x ∈ locs ∨ x.base = H.size) → H1.size = H.size + 1 + N → H1[H.size]? = some (arrV cA N fun j => .ref (H.size + 1 + j)) → (∀ j, j < N → H1[H.size + 1 + j]? = some (arrV cB K fun _ => defaultValue ty)) → (∀ q, q < H.size → H1[q]? = H[q]?) →
      W p l e R s m args below meth c H1 lc (cells + 1 + N) (slots + N + N * K) Q { g with pc := g.pc + 4, stack := .ref H.size :: rest }) : W p l e R s m args below meth c H locs cells slots Q g := by
  intro T hT X
  subst hT
  subst hb
  subst hg
  have hpl : e.platform.magicAccessors = ({} : Platform).magicAccessors := by rw [X.admits.platform]
  obtain ⟨cA, cB2, ce, kA, kB, ⟨q4, q1⟩, ⟨q2, q3⟩, r2, r3⟩ := hma
  obtain ⟨c0, f1, f2⟩ := Cond.classLink_spec hown hcl e.platform hpl
  obtain rfl : cA = c0 := Option.some.inj (q4.symm.trans f1)
  obtain ⟨v1, v2, v3⟩ := State.classEntry (e := e) X.warmed f2
  generalize T.vm.noted g.method.cls idx (.cls cA) = vm1 at v1 v2 v3
  obtain ⟨kA1, u1, u2⟩ := v2.alike.2.2 _ _ q2
  obtain ⟨kB1, u3, u4⟩ := v2.alike.2.2 _ _ r2
  have u5 : kA1.kind = .array cB2 (.array ty) := by rw [u2]; exact q3
  have u6 : kB1.kind = .array ce ty := by rw [u4]; exact r3
  have X1 := X.noted v2
  have hl1 : ¬ N > e.platform.arrayLengthLimit := by rw [Launch.admits_arrayLengthLimit X.admits]; omega
  have hh1 : ¬ N * componentBytes (.array ty) > e.platform.maxHeapBytes := by
    rw [Launch.admits_maxHeapBytes X.admits]
    show ¬ N * 4 > 536870912
    omega
  have hl2 : ¬ K > e.platform.arrayLengthLimit := by rw [Launch.admits_arrayLengthLimit X.admits]; omega
  have hh2 : ¬ K * componentBytes ty > e.platform.maxHeapBytes := by
    rw [Launch.admits_maxHeapBytes X.admits]
    have := Nat.mul_le_mul_left K hcb
    omega
  have hfr : ∀ v, v = Value.null ∨ (∃ a, v = .ref a) → fits (.array ty) v = true := by
    rintro v (rfl | ⟨a, rfl⟩) <;> rfl
  obtain ⟨rm1, rm2⟩ := X.roomAbove hcells hslots
  have hI := mu_all X1 cA cB2 N K (defaultValue ty)
  have hfin := hI N
  have hT1 : (T.setVm vm1).heap = T.heap := rfl
  have hv1 : (T.setVm vm1).vm = vm1 := rfl
  rw [hT1, hv1] at hfin
  obtain ⟨lc, Y, h1, h2, h3, h4, h5, h6⟩ := hfin
  obtain ⟨t, a1, b1⟩ := kk cA cB2 _ lc q4 q1 h1 h3 (by
    rw [h4]
    congr 1
    unfold arrV
    congr 1
    apply Array.ext (by simp)
    intro j a b
    simp at a ⊢) h5 h6 _ rfl Y
  refine ⟨t, ?_, b1⟩
  jvm_step X.here [hexec, hdg]
  simp only [multianewarray.sem, wp_bind', W.resolveClassAt_links (State.method?_setTop g X.here.top) v1]
  rw [W.popN, if_neg (by decide)]
  refine ⟨g, State.topJava?_setTop' (s := T.setVm vm1) g X.here.top, [.int n, .int k], rest, rfl, hst, ?_⟩
  simp only [List.mapM_cons, List.mapM_nil, wp_bind', wp_pure']
  have eS : ((T.setTop g).setVm vm1).setTop { g with stack := rest } = (T.setVm vm1).setTop { g with stack := rest } := by
    show ((T.setVm vm1).setTop g).setTop _ = _
    rw [State.setTop_setTop]
  rw [eS]
  obtain ⟨f, hf⟩ : ∃ f : JFrame, f = { g with stack := rest } := ⟨_, rfl⟩
  rw [← hf]
  rw [multianewarray.make]
  simp only [wp_bind', W.ite, hn, if_false, wp_pure', W.theClass, show ((T.setVm vm1).setTop f).vm.classes[cA]? = some kA1 from u1, u5, Option.some.injEq, exists_eq_left']
  rw [hN]
  refine mu_arr (show ((T.setVm vm1).setTop f).vm.classes[cA]? = some kA1 from u1) u5 hl1 hh1 (hfr _ (Or.inl rfl)) rfl (show T.heap.size < _ by omega) (show T.slotsUsed + N ≤ _ by omega) fun d1 acts1 => ?_
  have hfind : ([k].find? (· < 0)) = none := by simp [hk]
  simp only [hfind]
  rw [ite_self, wp_bind', Std.Legacy.Range.forIn_eq_forIn_range']
  have hsz : ([:N] : Std.Legacy.Range).size = N := by simp [Std.Legacy.Range.size]
  rw [hsz]
  show wp (forIn (List.range' 0 N 1) PUnit.unit _) _ _ e d1 acts1 _
  refine wp_forIn_inv (fun rs s' => ∃ i, i ≤ N ∧ rs = List.range' i (N - i) ∧ s' = (mu_st cA cB2 N K (defaultValue ty) (T.setVm vm1) i).setTop f) _ _ ⟨0, Nat.zero_le _, rfl, rfl⟩ ?_ ?_
  · rintro x rs s' d' acts' Q' ⟨i, hi, hl, rfl⟩ hnext
    have hlt : i < N := by
      rcases Nat.lt_or_ge i N with q | q
      · exact q
      · rw [show N - i = 0 by omega] at hl; cases hl
    rw [show N - i = (N - (i + 1)) + 1 by omega, List.range'_succ] at hl
    obtain ⟨rfl, hl⟩ := List.cons.inj hl
    obtain ⟨lc', Y', o1, o2, o3, o4, o5, o6⟩ := hI x
    have hmul : x * K + K ≤ N * K := by
      have := Nat.mul_le_mul_right K (show x + 1 ≤ N from hlt)
      rw [Nat.succ_mul] at this
      exact this
    obtain ⟨w1, w2⟩ := Y'.roomAbove (a := 1) (b := K) (by omega) (by omega)
    simp only [wp_bind']
    rw [multianewarray.make]
    simp only [wp_bind', W.ite, hk, if_false, wp_pure', W.theClass, show ((mu_st cA cB2 N K (defaultValue ty) (T.setVm vm1) x).setTop f).vm.classes[cB2]? = some kB1 from (by show (mu_st cA cB2 N K (defaultValue ty) (T.setVm vm1) x).vm.classes[cB2]? = _; rw [o2]; exact u3), u6, Option.some.injEq, exists_eq_left']
    rw [hK]
    refine mu_arr (s := (mu_st cA cB2 N K (defaultValue ty) (T.setVm vm1) x).setTop f) (show (mu_st cA cB2 N K (defaultValue ty) (T.setVm vm1) x).vm.classes[cB2]? = some kB1 from by rw [o2]; exact u3) u6 hl2 hh2 hdf hdd (show (mu_st cA cB2 N K (defaultValue ty) (T.setVm vm1) x).heap.size < _ by omega) (show (mu_st cA cB2 N K (defaultValue ty) (T.setVm vm1) x).slotsUsed + K ≤ _ by omega) fun d2 acts2 => ?_
    simp only [wp_bind', W.writeLoc, wp_pure']
    refine ⟨arrV cA N fun j => if j < x then .ref (T.heap.size + 1 + j) else .null, ?_, by simp [arrV], by rw [arrV_size]; exact hlt, ?_, hnext _ _ _ ⟨x + 1, hlt, hl, ?_⟩⟩
    · show ((mu_st cA cB2 N K (defaultValue ty) (T.setVm vm1) x).pushCell (arrV cB2 K fun _ => defaultValue ty)).heap[T.heap.size]? = _
      rw [State.heap_pushCell_of_lt _ _ (by rw [o3]; show T.heap.size < T.heap.size + 1 + x; omega)]
      exact o4
    · show (mu_st cA cB2 N K (defaultValue ty) (T.setVm vm1) x).fitsSlot cA .none x _ = true
      simp [State.fitsSlot, State.slotType?, o2, u1, u5, hfr _ (Or.inr ⟨_, rfl⟩)]
    · rfl
  · rintro s' d' acts' ⟨i, hi, hl, rfl⟩
    obtain rfl : i = N := by
      rcases Nat.lt_or_ge i N with q | q
      · rw [show N - i = (N - (i + 1)) + 1 by omega, List.range'_succ] at hl; cases hl
      · omega
    subst hf
    simp only [wp_pure', wp_bind', W.mark, W.pushRef, State.topJava?_setTop' _ Y.here.top, Option.some.injEq, exists_eq_left', State.setTop_setTop, State.heap_setTop]
    intro acts2
    simp [jvm, Y.here.top]
    exact a1
end MU
section MUX
variable {own : String} {cc : ByteArray} {mL : Nat} {rt : Option FieldType} {nm : String × List (Nat × Nat × Nat × Nat)} {d mc ms : Nat} {X : Nat × (Nat → Int32)} {QF : px_F} {pc : Nat} {lv lv' : List (Nat × Value)} {st : List Value} {sh : px_Sh} {M : px_M} {L : px_L} {R : px_R} {n cu su : Nat}
/-- a row of references to objects, all null -/
theorem wx_anew {idx kd N : Nat} {i : Int32} {C : String} (hd : decode cc pc = .ok (.anewarray idx, 3)) (hkd : (kd = 16 ∧ C = RX5) ∨ (kd = 17 ∧ C = RX10)) (hw : Cond.classLink own idx C ∈ px_G) (hi : ¬ i < 0) (hN : i.toNatClampNeg = N) (hN2 : N ≤ 60000000) (hc : cu + 1 ≤ mc) (hs : su + N ≤ ms)
    (h : WX own cc mL rt nm d mc ms X QF (pc + 3) lv (.ref n :: st) (px_c sh n (some (kd, N))) (px_c M n (fun _ => 0)) (px_c L n (fun _ => 0)) (px_c R n (fun _ => none)) (n + 1) (cu + 1) (su + N)) : WX own cc mL rt nm d mc ms X QF pc lv (.int i :: st) sh M L R n cu su := by
  intro p l e Rm s m args below meth c B D cy sx H locs ls hC hW hn hS hl
  have h2 := fun H1 locs1 => h p l e Rm s m args below meth c B D cy sx H1 locs1 ls hC
  obtain ⟨hx, hb, -, -, hown, hts, -, hK, hE, -, -, hB, -, -, hce, hsl⟩ := hC
  have hov : (Cond.arrayOver (.object C)).before args s = true := by
    rcases hkd with ⟨-, rfl⟩ | ⟨-, rfl⟩
    · exact va_AO.use hE.1.2.1.1.1
    · exact va_AO.use hE.1.2.1.2.1
  have het : px_et kd = .object C := by rcases hkd with ⟨rfl, rfl⟩ | ⟨rfl, rfl⟩ <;> rfl
  have hk1 : 16 ≤ kd ∧ kd < 18 := by omega
  subst hN
  refine W.anew hx hb hown (hts _ hw) hov rfl hd rfl hi (by omega) (by omega) (by omega) fun cA kA comp g1 g2 g3 g4 => ?_
  have hcA : cA = cy kd := by
    have hra := (hK.1.2 (kd - 13) _ (px_tysat cy kd (by omega) (by omega))).2
    rw [het] at hra
    obtain ⟨kA2, comp2, -, -, -, z4⟩ := hra
    exact Option.some.inj (g1.symm.trans z4)
  subst hcA
  rw [hn]
  have o1 : ∀ q, q < B + n → (H.push { cls := cy kd, slots := Array.replicate i.toNatClampNeg .null, vm := .none })[q]? = H[q]? := fun q hq => by rw [Array.getElem?_push, if_neg (by omega)]
  refine h2 _ locs (hW.new hn o1 ⟨fun q => absurd q (by show ¬ kd < 13; omega), fun _ => ?_⟩) (by rw [Array.size_push, hn]; omega) ⟨Nat.le_trans hS.1 (by rw [Array.size_push]; omega), fun q h1 h3 => (o1 q (by have := hS.1; omega)).trans (hS.2.1 q h1 h3), hS.2.2⟩ hl
  rw [← hn, arrV_new]
  have e2 : px_tc (px_et kd) = 2 := (px_isref kd (by omega)).2
  show (H.push _)[H.size]? = some (arrV (cy kd) i.toNatClampNeg fun j => px_val B (px_tc (px_et kd)) 0 0 none)
  rw [e2]
  simp
  rfl
/-- n more cells of one kind -/
def px_cs {α : Type} (f : Nat → α) (a k : Nat) (x : α) : Nat → α := fun b => if a ≤ b ∧ b < a + k then x else f b
/-- a row of rows: the outer one, then the inner ones -/
theorem wx_multi {idx kd ki N K : Nat} {i j : Int32} (hd : decode cc pc = .ok (.multianewarray idx 2, 4)) (hkd : (kd = 18 ∧ ki = 14) ∨ (kd = 19 ∧ ki = 15)) (hw : Cond.classLink own idx ("[" ++ (px_et kd).toString) ∈ px_G) (hi : ¬ i < 0) (hj : ¬ j < 0) (hN : i.toNatClampNeg = N) (hK : j.toNatClampNeg = K) (hN2 : N ≤ 60000000) (hK2 : K ≤ 60000000) (hc : cu + (1 + N) ≤ mc) (hs : su + (N + N * K) ≤ ms)
    (h : WX own cc mL rt nm d mc ms X QF (pc + 4) lv (.ref n :: st) (px_cs (px_c sh n (some (kd, N))) (n + 1) N (some (ki, K))) (px_cs (px_c M n (fun _ => 0)) (n + 1) N (fun _ => 0)) (px_cs (px_c L n (fun _ => 0)) (n + 1) N (fun _ => 0)) (px_cs (px_c R n (fun q => some (n + 1 + q))) (n + 1) N (fun _ => none)) (n + 1 + N) (cu + 1 + N) (su + N + N * K)) : WX own cc mL rt nm d mc ms X QF pc lv (.int j :: .int i :: st) sh M L R n cu su := by
  intro p l e Rm s m args below meth c B D cy sx H locs ls hC hW hn hS hl
  have h2 := fun H1 locs1 => h p l e Rm s m args below meth c B D cy sx H1 locs1 ls hC
  obtain ⟨hx, hb, -, -, hown, hts, -, hK9, hE, -, -, hB, -, -, hce, hsl⟩ := hC
  obtain ⟨ty, t1, t2, t3, t4, t5, t6⟩ : ∃ ty, px_et kd = .array ty ∧ px_et ki = ty ∧ va_MA ty s ∧ componentBytes ty ≤ 8 ∧ (fits ty (defaultValue ty) = true ∧ (defaultValue ty).isDefault = true) ∧ ∀ B, defaultValue ty = px_val B (px_tc ty) 0 0 none := by
    rcases hkd with ⟨rfl, rfl⟩ | ⟨rfl, rfl⟩
    · exact ⟨.long, rfl, rfl, hE.1.2.1.1.2, by decide, ⟨rfl, rfl⟩, fun _ => rfl⟩
    · exact ⟨.boolean, rfl, rfl, hE.1.2.1.2.2, by decide, ⟨rfl, rfl⟩, fun _ => rfl⟩
  have hk1 : (18 ≤ kd ∧ kd < 20) ∧ (14 ≤ ki ∧ ki < 16) := by omega
  rw [t1] at hw
  refine W.mu hx hb hown (hts _ hw) t3 rfl hd rfl hi hj hN hK hN2 hK2 t5.1 t5.2 t4 (by omega) (by omega) fun cA cB H1 lc g1 g2 g3 g4 g5 g6 g7 => ?_
  have hcA : cA = cy kd := by
    have hra := (hK9.1.2 (kd - 13) _ (px_tysat cy kd (by omega) (by omega))).2
    rw [t1] at hra
    exact Option.some.inj (g1.symm.trans (show s.vm.findClass ("[" ++ (FieldType.array ty).toString) = some (cy kd) from hra))
  have hcB : cB = cy ki := by
    have hra := (hK9.1.2 (ki - 13) _ (px_tysat cy ki (by omega) (by omega))).2
    rcases hkd with ⟨rfl, rfl⟩ | ⟨rfl, rfl⟩
    · obtain rfl : ty = .long := t2.symm
      exact Option.some.inj (g2.symm.trans hra)
    · obtain rfl : ty = .boolean := t2.symm
      exact Option.some.inj (g2.symm.trans hra)
  subst hcA
  subst hcB
  rw [hn] at g3 g4 g5 g6 g7
  rw [hn]
  refine h2 H1 lc (fun a kl ha => ?_) (by rw [g4]; omega) ⟨Nat.le_trans hS.1 (by omega), fun q h1 h3 => (g7 q (by have := hS.1; omega)).trans (hS.2.1 q h1 h3), fun x hx => ?_⟩ hl
  · by_cases e1 : n + 1 ≤ a ∧ a < n + 1 + N
    · simp only [px_cs, if_pos e1] at ha ⊢
      obtain rfl := Option.some.inj ha
      refine ⟨fun q => absurd q (by show ¬ ki < 13; omega), fun _ => ?_⟩
      have := g6 (a - (n + 1)) (by omega)
      rw [show B + n + 1 + (a - (n + 1)) = B + a by omega, t6 B] at this
      rw [this]
      show some (arrV (cy ki) K _) = some (arrV (cy ki) K _)
      rw [t2]
    · simp only [px_cs, if_neg e1] at ha ⊢
      by_cases e2 : a = n
      · subst e2
        simp only [px_c_in] at ha ⊢
        obtain rfl := Option.some.inj ha
        refine ⟨fun q => absurd q (by show ¬ kd < 13; omega), fun _ => ?_⟩
        rw [g5]
        have e3 : px_tc (px_et kd) = 2 := (px_isref kd (by omega)).2
        show some (arrV (cy kd) N _) = some (arrV (cy kd) N fun q => px_val B (px_tc (px_et kd)) 0 0 (some (a + 1 + q)))
        rw [e3]
        congr 2
        funext q
        show Value.ref _ = va_rf (some (B + (a + 1 + q)))
        rw [show B + (a + 1 + q) = B + a + 1 + q by omega]
        rfl
      · rw [px_c_ne _ _ e2] at ha
        rw [px_c_ne _ _ e2, px_c_ne _ _ e2, px_c_ne _ _ e2]
        have h3 := hW a kl ha
        exact h3.kept (g7 _ (by have := h3.lt; omega))
  · rcases g3 x hx with q | q
    · exact hS.2.2 x q
    · rw [q]; show B ≤ B + n; omega
end MUX
