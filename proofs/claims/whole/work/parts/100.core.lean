/-! LAYER 1: a pure memory over the machine. Cell k of the memory lies at B + k; sh: kind and length of each cell; M, L, R: its ints, longs, references. -/
def px_ty (kd j : Nat) : FieldType := match kd with
  | 0 => tyX0 j
  | 1 => tyX1 j
  | 2 => tyX2 j
  | 3 => tyX3 j
  | 4 => tyX4 j
  | 5 => tyX5 j
  | 6 => tyX6 j
  | 7 => tyX7 j
  | 8 => tyX8 j
  | 9 => tyX9 j
  | 10 => tyX10 j
  | 11 => tyX11 j
  | _ => tyX12 j
def px_N (kd : Nat) : Nat := match kd with
  | 0 => 7
  | 1 => 4
  | 2 => 8
  | 3 => 15
  | 4 => 19
  | 5 => 11
  | 6 => 11
  | 7 => 6
  | 8 => 13
  | 9 => 11
  | 10 => 4
  | 11 => 8
  | _ => 86
def px_RC (kd : Nat) : String := match kd with
  | 0 => RX0
  | 1 => RX1
  | 2 => RX2
  | 3 => RX3
  | 4 => RX4
  | 5 => RX5
  | 6 => RX6
  | 7 => RX7
  | 8 => RX8
  | 9 => RX9
  | 10 => RX10
  | 11 => RX11
  | _ => RX12
def px_TC (kd : Nat) : u_T := match kd with
  | 0 => TX0
  | 1 => TX1
  | 2 => TX2
  | 3 => TX3
  | 4 => TX4
  | 5 => TX5
  | 6 => TX6
  | 7 => TX7
  | 8 => TX8
  | 9 => TX9
  | 10 => TX10
  | 11 => TX11
  | _ => TX12
/-- the kinds 13 to 19 are arrays: what an element is -/
def px_et (kd : Nat) : FieldType := match kd with
  | 13 => .int
  | 14 => .long
  | 15 => .boolean
  | 16 => .object RX5
  | 17 => .object RX10
  | 18 => .array .long
  | _ => .array .boolean
def px_tc (t : FieldType) : Nat := match t with
  | .long => 1
  | .object _ => 2
  | .array _ => 2
  | _ => 0
theorem px_cl (kd : Nat) (h : kd < 13) : vwCl[kd]? = some (px_RC kd, px_TC kd, px_N kd) := match kd, h with
  | 0, _ => rfl
  | 1, _ => rfl
  | 2, _ => rfl
  | 3, _ => rfl
  | 4, _ => rfl
  | 5, _ => rfl
  | 6, _ => rfl
  | 7, _ => rfl
  | 8, _ => rfl
  | 9, _ => rfl
  | 10, _ => rfl
  | 11, _ => rfl
  | 12, _ => rfl
  | k + 13, h => absurd h (by omega)
theorem px_tyok (kd : Nat) (h : kd < 13) : ∀ k, k < px_N kd → parseFieldDescriptor (px_TC kd k).2.2.1 = some (px_ty kd k) := match kd, h with
  | 0, _ => tyX0_ok
  | 1, _ => tyX1_ok
  | 2, _ => tyX2_ok
  | 3, _ => tyX3_ok
  | 4, _ => tyX4_ok
  | 5, _ => tyX5_ok
  | 6, _ => tyX6_ok
  | 7, _ => tyX7_ok
  | 8, _ => tyX8_ok
  | 9, _ => tyX9_ok
  | 10, _ => tyX10_ok
  | 11, _ => tyX11_ok
  | 12, _ => tyX12_ok
  | k + 13, h => absurd h (by omega)
theorem px_nm (kd : Nat) (h : kd < 13) : ∀ a, a < px_N kd → ∀ b, b < px_N kd → a ≠ b → (px_TC kd a).2.1 ≠ (px_TC kd b).2.1 := match kd, h with
  | 0, _ => nmX0
  | 1, _ => nmX1
  | 2, _ => nmX2
  | 3, _ => nmX3
  | 4, _ => nmX4
  | 5, _ => nmX5
  | 6, _ => nmX6
  | 7, _ => nmX7
  | 8, _ => nmX8
  | 9, _ => nmX9
  | 10, _ => nmX10
  | 11, _ => nmX11
  | 12, _ => nmX12
  | k + 13, h => absurd h (by omega)
/-- the words that every method of the system has -/
def px_G : List Cond := lw_tbl.filter goodWord
theorem px_mem {w : Cond} (i : Nat) (h : tables_1[i]? = some w) (hg : goodWord w = true) : w ∈ px_G := List.mem_filter.mpr ⟨List.mem_append_right _ (List.mem_of_getElem? h), hg⟩
theorem px_mems {w : Cond} (i : Nat) (h : (k2_sels lw_privs)[i]? = some w) (hg : goodWord w = true) : w ∈ px_G := List.mem_filter.mpr ⟨List.mem_append_left _ (List.mem_of_getElem? h), hg⟩
set_option maxRecDepth 100000 in
theorem px_inA : ∀ w ∈ tables_1, (match w with | .lays _ _ _ _ => true | .laysFinal _ _ _ _ => true | _ => false) = true → goodWord w = true := by
  intro w _ h
  cases w <;> first | exact Bool.noConfusion h | rfl | (simp at h)
theorem px_inB {C : String} {T : u_T} {N : Nat} (h : ∀ w ∈ u_ws C T N, w ∈ tables_1) : ∀ w ∈ u_ws C T N, w ∈ px_G := by
  intro w hw
  have h1 := h w hw
  refine List.mem_filter.mpr ⟨List.mem_append_right _ h1, px_inA w h1 ?_⟩
  obtain ⟨k, -, rfl⟩ := List.mem_map.mp hw
  by_cases hh : (T k).2.2.2 = true
  · rw [show u_lay C T k = Cond.laysFinal C (T k).1 (T k).2.1 (T k).2.2.1 from if_pos hh]
  · rw [show u_lay C T k = Cond.lays C (T k).1 (T k).2.1 (T k).2.2.1 from if_neg hh]
set_option maxRecDepth 100000 in
theorem px_in0 : ∀ w ∈ u_ws RX0 TX0 7, w ∈ tables_1 := by decide +kernel
set_option maxRecDepth 100000 in
theorem px_in1 : ∀ w ∈ u_ws RX1 TX1 4, w ∈ tables_1 := by decide +kernel
set_option maxRecDepth 100000 in
theorem px_in2 : ∀ w ∈ u_ws RX2 TX2 8, w ∈ tables_1 := by decide +kernel
set_option maxRecDepth 100000 in
theorem px_in3 : ∀ w ∈ u_ws RX3 TX3 15, w ∈ tables_1 := by decide +kernel
set_option maxRecDepth 100000 in
theorem px_in4 : ∀ w ∈ u_ws RX4 TX4 19, w ∈ tables_1 := by decide +kernel
set_option maxRecDepth 100000 in
theorem px_in5 : ∀ w ∈ u_ws RX5 TX5 11, w ∈ tables_1 := by decide +kernel
set_option maxRecDepth 100000 in
theorem px_in6 : ∀ w ∈ u_ws RX6 TX6 11, w ∈ tables_1 := by decide +kernel
set_option maxRecDepth 100000 in
theorem px_in7 : ∀ w ∈ u_ws RX7 TX7 6, w ∈ tables_1 := by decide +kernel
set_option maxRecDepth 100000 in
theorem px_in8 : ∀ w ∈ u_ws RX8 TX8 13, w ∈ tables_1 := by decide +kernel
set_option maxRecDepth 100000 in
theorem px_in9 : ∀ w ∈ u_ws RX9 TX9 11, w ∈ tables_1 := by decide +kernel
set_option maxRecDepth 100000 in
theorem px_in10 : ∀ w ∈ u_ws RX10 TX10 4, w ∈ tables_1 := by decide +kernel
set_option maxRecDepth 100000 in
theorem px_in11 : ∀ w ∈ u_ws RX11 TX11 8, w ∈ tables_1 := by decide +kernel
set_option maxRecDepth 100000 in
theorem px_in12 : ∀ w ∈ u_ws RX12 TX12 86, w ∈ tables_1 := by decide +kernel
theorem px_inG (kd : Nat) (h : kd < 13) : ∀ w ∈ u_ws (px_RC kd) (px_TC kd) (px_N kd), w ∈ px_G := match kd, h with
  | 0, _ => px_inB px_in0
  | 1, _ => px_inB px_in1
  | 2, _ => px_inB px_in2
  | 3, _ => px_inB px_in3
  | 4, _ => px_inB px_in4
  | 5, _ => px_inB px_in5
  | 6, _ => px_inB px_in6
  | 7, _ => px_inB px_in7
  | 8, _ => px_inB px_in8
  | 9, _ => px_inB px_in9
  | 10, _ => px_inB px_in10
  | 11, _ => px_inB px_in11
  | 12, _ => px_inB px_in12
  | k + 13, h => absurd h (by omega)
/-! the memory -/
abbrev px_Sh : Type := Nat → Option (Nat × Nat)
abbrev px_M : Type := Nat → Nat → Int32
abbrev px_L : Type := Nat → Nat → Int64
abbrev px_R : Type := Nat → Nat → Option Nat
def px_val (B t : Nat) (x : Int32) (y : Int64) (r : Option Nat) : Value := match t with
  | 0 => .int x
  | 1 => .long y
  | _ => va_rf (r.map (fun a => B + a))
def px_at (D : va_G) (cy : Nat → ClassId) (B : Nat) (kl : Nat × Nat) (m : Nat → Int32) (l : Nat → Int64) (r : Nat → Option Nat) (a : Nat) (H : Heap) : Prop :=
  (kl.1 < 13 → t_OB (B + a) (D.1 kl.1) (px_N kl.1) (D.2 kl.1) H (fun j => px_val B (px_tc (px_ty kl.1 j)) (m j) (l j) (r j))) ∧
  (13 ≤ kl.1 → H[B + a]? = some (arrV (cy kl.1) kl.2 (fun j => px_val B (px_tc (px_et kl.1)) (m j) (l j) (r j))))
def px_W (D : va_G) (cy : Nat → ClassId) (B : Nat) (sh : px_Sh) (M : px_M) (L : px_L) (R : px_R) (H : Heap) : Prop := ∀ a kl, sh a = some kl → px_at D cy B kl (M a) (L a) (R a) a H
/-- an abstract value: ref k is cell k of the memory; retAddr c is a thing outside it, number c -/
def px_v (B : Nat) (sx : Nat → Nat) (v : Value) : Value := match v with
  | .ref a => .ref (B + a)
  | .retAddr c => .ref (sx c)
  | w => w
def px_q (B : Nat) (sx : Nat → Nat) (q : Nat × Value) : Nat × Value := (q.1, px_v B sx q.2)
def px_tys (cy : Nat → ClassId) : List (ClassId × FieldType) := [(cy 13, px_et 13), (cy 14, px_et 14), (cy 15, px_et 15), (cy 16, px_et 16), (cy 17, px_et 17), (cy 18, px_et 18), (cy 19, px_et 19)]
theorem px_v_cat (B : Nat) (sx : Nat → Nat) (v : Value) : (px_v B sx v).category = v.category := by cases v <;> rfl
/-! updates -/
def px_u {α : Type} (f : Nat → Nat → α) (a j : Nat) (x : α) : Nat → Nat → α := fun b k => if b = a ∧ k = j then x else f b k
def px_c {α : Type} (f : Nat → α) (a : Nat) (x : α) : Nat → α := fun b => if b = a then x else f b
theorem px_u_in {α : Type} (f : Nat → Nat → α) (a j : Nat) (x : α) : px_u f a j x a j = x := if_pos ⟨rfl, rfl⟩
theorem px_u_ne {α : Type} (f : Nat → Nat → α) {a b : Nat} (j : Nat) (x : α) (h : b ≠ a) : px_u f a j x b = f b := funext fun k => if_neg fun q => h q.1
theorem px_u_nj {α : Type} (f : Nat → Nat → α) {a b j k : Nat} (x : α) (h : k ≠ j) : px_u f a j x b k = f b k := if_neg fun q => h q.2
theorem px_c_in {α : Type} (f : Nat → α) (a : Nat) (x : α) : px_c f a x a = x := if_pos rfl
theorem px_c_ne {α : Type} (f : Nat → α) {a b : Nat} (x : α) (h : b ≠ a) : px_c f a x b = f b := if_neg h
theorem px_at.kept {D : va_G} {cy : Nat → ClassId} {B : Nat} {kl : Nat × Nat} {m : Nat → Int32} {l : Nat → Int64} {r : Nat → Option Nat} {a : Nat} {H H1 : Heap} (h : px_at D cy B kl m l r a H) (e : H1[B + a]? = H[B + a]?) : px_at D cy B kl m l r a H1 := ⟨fun q => (h.1 q).kept e, fun q => by rw [e]; exact h.2 q⟩
theorem px_at.lt {D : va_G} {cy : Nat → ClassId} {B : Nat} {kl : Nat × Nat} {m : Nat → Int32} {l : Nat → Int64} {r : Nat → Option Nat} {a : Nat} {H : Heap} (h : px_at D cy B kl m l r a H) : B + a < H.size := by
  rcases Nat.lt_or_ge kl.1 13 with q | q
  · obtain ⟨cell, h2, -⟩ := h.1 q
    exact (Array.getElem?_eq_some_iff.mp h2).1
  · exact (Array.getElem?_eq_some_iff.mp (h.2 q)).1
/-- one cell is written -/
theorem px_W.put {D : va_G} {cy : Nat → ClassId} {B : Nat} {sh : px_Sh} {M M' : px_M} {L L' : px_L} {R R' : px_R} {H H1 : Heap} {a : Nat} (h : px_W D cy B sh M L R H) (e3 : ∀ q : Nat, q ≠ B + a → H1[q]? = H[q]?)
    (hM : ∀ b, b ≠ a → M' b = M b) (hL : ∀ b, b ≠ a → L' b = L b) (hR : ∀ b, b ≠ a → R' b = R b) (ha : ∀ kl, sh a = some kl → px_at D cy B kl (M' a) (L' a) (R' a) a H1) : px_W D cy B sh M' L' R' H1 := by
  intro b kl hb
  by_cases e : b = a
  · subst e
    exact ha kl hb
  · rw [hM b e, hL b e, hR b e]
    exact (h b kl hb).kept (e3 _ (by omega))
/-! what a method's start says beside the memory -/
def px_isE (w : Cond) : Bool := match w with
  | .fieldLinkNest _ _ _ _ _ _ => true
  | .methodLinkNest _ _ _ _ => true
  | .declares _ => true
  | .castable _ _ => true
  | _ => false
def px_NW : List Cond := lw_tbl.filter px_isE
theorem px_memN {w : Cond} (i : Nat) (h : tables_1[i]? = some w) (hg : px_isE w = true) : w ∈ px_NW := List.mem_filter.mpr ⟨List.mem_append_right _ (List.mem_of_getElem? h), hg⟩
/-- the constant idx of the class own is field j of the kind kd -/
def px_fl (own : String) (idx kd j : Nat) : Prop := (kd < 13 ∧ j < px_N kd ∧ (px_TC kd j).1 = px_RC kd) ∧ (Cond.fieldLink own idx (px_RC kd) (px_TC kd j).2.1 (px_TC kd j).2.2.1 ∈ px_G ∨ ∃ host, Cond.fieldLinkNest own idx (px_RC kd) (px_TC kd j).2.1 (px_TC kd j).2.2.1 host ∈ px_NW)
def px_ml (own : String) (idx : Nat) (y : MethodName) : Prop := Cond.methodLink own idx y ∈ px_G ∨ ∃ host, Cond.methodLinkNest own idx y host ∈ px_NW
def px_my (y : MethodName) (cc : ByteArray) (mL : Nat) (rt : Option FieldType) (k : Nat) : Prop := (Cond.code y cc mL rt ∈ px_G ∧ Cond.initialized y.cls ∈ px_G) ∧ (y.cls ≠ "java/lang/invoke/MethodHandle" ∧ y.cls ≠ "java/lang/invoke/VarHandle") ∧ (parseMethodDescriptor y.desc).map (fun d => d.parameters.length) = some k ∧ mL ≤ 45
def px_mw (y : MethodName) (cc : ByteArray) (mL : Nat) (rt : Option FieldType) (hh : List (Nat × Nat × Nat × Nat)) (k : Nat) : Prop := (Cond.codeWith y cc mL rt hh ∈ px_G ∧ Cond.initialized y.cls ∈ px_G ∧ Cond.static y ∈ px_G) ∧ (y.cls ≠ "java/lang/invoke/MethodHandle" ∧ y.cls ≠ "java/lang/invoke/VarHandle") ∧ (parseMethodDescriptor y.desc).map (fun d => d.parameters.length) = some k ∧ mL ≤ 45
/-- the words of 'throw new cls(text)' -/
def px_tw (ik ic : Nat) (cls : String) : Prop := Cond.classLink RX11 ik cls ∈ px_G ∧ Cond.initialized cls ∈ px_G ∧ ∀ w ∈ vx_atS RX11 ic cls ["java/lang/RuntimeException", "java/lang/Exception"], w ∈ lw_tbl ∧ (goodWord w = true ∨ px_isE w = true)
